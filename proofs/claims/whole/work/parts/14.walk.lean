-- X7_position
set_option maxRecDepth 20000 in
set_option maxHeartbeats 2000000 in
theorem wX7_position_b39 {X : Cx} {w : Wp} {σ : St} {r : Int64} {σ' : St}   (hX : OK X w cX7_position 6 RX7 (some .long) (rmz 3 68) (Ql w σ' r)) (hW : MW w)   (hf : fX7_position_b39 σ = some (r, σ')) : J X w 6 σ 39 [] [] := by
  rw [fX7_position_b39] at hf
  refine J.calll (fun H locs ls a b c => runS hX miX7_lost (cX7_lost_ok (xl X)  rfl) g3_194 g3_195 ⟨Nat.le_of_ble_eq_true rfl, Nat.le_of_ble_eq_true rfl⟩ dX7_position_39 rfl (As := []) (rest := []) rfl (Nat.le_of_ble_eq_true rfl) a b c) ?_
  cases hf
  exact r_lret hX dX7_position_42
set_option maxRecDepth 20000 in
set_option maxHeartbeats 2000000 in
theorem wX7_position_b0 {X : Cx} {w : Wp} {σ : St} {r : Int64} {σ' : St}  {x1 : Int32} {x2 : Int32} {x3 : Int32} {x4 : Int32} (hX : OK X w cX7_position 6 RX7 (some .long) (rmz 3 68) (Ql w σ' r)) (hW : MW w)   (hf : fX7_position σ x1 x2 x3 x4 = some (r, σ')) : J X w 6 σ 0 [(0, rf w 0), (1, .int x1), (2, .int x2), (3, .int x3), (4, .int x4)] [] := by
  rw [fX7_position] at hf
  refine r_aload_n hX dX7_position_0 rfl 0 rfl ?_
  refine r_iload_n hX dX7_position_1 rfl 1 rfl ?_
  refine J.callz (fun H locs ls a b c => runV hX miX7_noFigure (As := [.int x1]) (cX7_noFigure_ok (xl X) hW  rfl) g3_159 g3_161 gs_17 cls7 (MK0 hW) (by decide) (ce8 (MK0 hW)) ⟨Nat.le_of_ble_eq_true rfl, Nat.le_of_ble_eq_true rfl⟩ dX7_position_2 rfl (rest := []) rfl (Nat.le_of_ble_eq_true rfl) a b c) (fun hz1 => ?_)
  refine r_if_ne hX dX7_position_5 (tgt := 39) (by decide) (fun h => ?_) (fun h => ?_)
  · have hf := ite_f h hf
    exact J.sub [] rfl (wX7_position_b39 hX hW   hf)
  · have hf := ite_t h hf
    refine r_iload_n hX dX7_position_8 rfl 2 rfl ?_
    refine r_iconst hX dX7_position_9 (v := (0 : Int32)) (by decide) ?_
    refine r_aload_n hX dX7_position_10 rfl 0 rfl ?_
    refine r_get hX cls7 (MK0 hW) (by decide) (ce8 (MK0 hW)) 5 (by decide) g3_66 rfl dX7_position_11 (rf w 4) rfl ?_
    refine r_iload_n hX dX7_position_14 rfl 1 rfl ?_
    obtain ⟨hi11, hf⟩ := grd_some hf
    refine r_iald hX (MK4 hW) (ML4 hW) hi11 dX7_position_15 ?_
    refine J.callz (fun H locs ls a b c => runS hX miX7_in (cX7_in_ok (xl X)  rfl) g3_148 g3_149 ⟨Nat.le_of_ble_eq_true rfl, Nat.le_of_ble_eq_true rfl⟩ dX7_position_16 rfl (As := [.int x2, .int (0 : Int32), .int (σ.1 4 (ix x1))]) (rest := []) rfl (Nat.le_of_ble_eq_true rfl) a b c) (fun hz2 => ?_)
    refine r_if_eq hX dX7_position_19 (tgt := 39) (by decide) (fun h => ?_) (fun h => ?_)
    · have hf := ite_t h hf
      exact J.sub [] rfl (wX7_position_b39 hX hW   hf)
    · have hf := ite_f h hf
      refine r_iload_n hX dX7_position_22 rfl 3 rfl ?_
      refine J.callz (fun H locs ls a b c => runS hX miX7_isBeat (cX7_isBeat_ok (xl X)  rfl) g3_175 g3_176 ⟨Nat.le_of_ble_eq_true rfl, Nat.le_of_ble_eq_true rfl⟩ dX7_position_23 rfl (As := [.int x3]) (rest := []) rfl (Nat.le_of_ble_eq_true rfl) a b c) (fun hz3 => ?_)
      refine r_if_eq hX dX7_position_26 (tgt := 39) (by decide) (fun h => ?_) (fun h => ?_)
      · have hf := ite_t h hf
        exact J.sub [] rfl (wX7_position_b39 hX hW   hf)
      · have hf := ite_f h hf
        refine r_iload hX dX7_position_29 4 rfl ?_
        refine r_iconst hX dX7_position_31 (v := (0 : Int32)) (by decide) ?_
        refine r_iconst hX dX7_position_32 (v := (3 : Int32)) (by decide) ?_
        refine J.callz (fun H locs ls a b c => runS hX miX7_in (cX7_in_ok (xl X)  rfl) g3_148 g3_149 ⟨Nat.le_of_ble_eq_true rfl, Nat.le_of_ble_eq_true rfl⟩ dX7_position_33 rfl (As := [.int x4, .int (0 : Int32), .int (3 : Int32)]) (rest := []) rfl (Nat.le_of_ble_eq_true rfl) a b c) (fun hz4 => ?_)
        refine r_if_ne hX dX7_position_36 (tgt := 43) (by decide) (fun h => ?_) (fun h => ?_)
        · have hf := ite_f h hf
          refine r_aload_n hX dX7_position_43 rfl 0 rfl ?_
          refine r_iload_n hX dX7_position_44 rfl 3 rfl ?_
          obtain ⟨σ5, hr6, hf⟩ := bd_s hf
          refine J.callv (fun H locs ls a b c => runV hX miX7_goTo (As := [.int x3]) (cX7_goTo_ok (xl X) hW  hr6) g3_198 g3_200 gs_20 cls7 (MK0 hW) (by decide) (ce8 (MK0 hW)) ⟨Nat.le_of_ble_eq_true rfl, Nat.le_of_ble_eq_true rfl⟩ dX7_position_45 rfl (rest := []) rfl (Nat.le_of_ble_eq_true rfl) a b c) ?_
          refine r_bipush hX dX7_position_48 (v := (9 : Int32)) (by decide) ?_
          refine r_iload_n hX dX7_position_50 rfl 1 rfl ?_
          refine r_imul hX dX7_position_51 ?_
          refine r_iload_n hX dX7_position_52 rfl 2 rfl ?_
          refine r_iadd hX dX7_position_53 ?_
          refine r_istore hX (i := 5) dX7_position_54 (by decide) rfl ?_
          refine r_iload hX dX7_position_56 5 rfl ?_
          refine r_if_ne hX dX7_position_58 (tgt := 71) (by decide) (fun h => ?_) (fun h => ?_)
          · have hf := ite_f h hf
            refine r_iload hX dX7_position_71 5 rfl ?_
            refine r_iconst hX dX7_position_73 (v := (1 : Int32)) (by decide) ?_
            refine r_icmp_ne hX dX7_position_74 (tgt := 87) (by decide) (fun h => ?_) (fun h => ?_)
            · have hf := ite_f h hf
              refine r_iload hX dX7_position_87 5 rfl ?_
              refine r_iconst hX dX7_position_89 (v := (2 : Int32)) (by decide) ?_
              refine r_icmp_ne hX dX7_position_90 (tgt := 104) (by decide) (fun h => ?_) (fun h => ?_)
              · have hf := ite_f h hf
                refine r_aload_n hX dX7_position_104 rfl 1 rfl ?_
                refine r_get hX cls7 (MK0 hW) (by decide) (ce8 (MK0 hW)) 16 (by decide) g3_77 rfl dX7_position_105 (rf w 14) rfl ?_
                refine r_iload_n hX dX7_position_108 rfl 2 rfl ?_
                obtain ⟨hi7, hf⟩ := grd_some hf
                refine r_iald hX (MK14 hW) (ML14 hW) hi7 dX7_position_109 ?_
                refine r_i2l hX dX7_position_110 ?_
                cases hf
                exact r_lret hX dX7_position_111
              · have hf := ite_t h hf
                refine r_aload_n hX dX7_position_93 rfl 1 rfl ?_
                refine r_get hX cls7 (MK0 hW) (by decide) (ce8 (MK0 hW)) 20 (by decide) g3_81 rfl dX7_position_94 (rf w 18) rfl ?_
                refine r_iload hX dX7_position_97 0 rfl ?_
                obtain ⟨hi8, hf⟩ := grd_some hf
                refine r_iald hX (MK18 hW) (ML18 hW) hi8 dX7_position_99 ?_
                refine r_i2l hX dX7_position_100 ?_
                refine r_goto hX dX7_position_101 (tgt := 111) (by decide) ?_
                cases hf
                exact r_lret hX dX7_position_111
            · have hf := ite_t h hf
              refine r_aload_n hX dX7_position_77 rfl 1 rfl ?_
              refine r_get hX cls7 (MK0 hW) (by decide) (ce8 (MK0 hW)) 19 (by decide) g3_80 rfl dX7_position_78 (rf w 17) rfl ?_
              refine r_iload hX dX7_position_81 0 rfl ?_
              obtain ⟨hi9, hf⟩ := grd_some hf
              refine r_lald hX (MK17 hW) (ML17 hW) hi9 dX7_position_83 ?_
              refine r_goto hX dX7_position_84 (tgt := 111) (by decide) ?_
              cases hf
              exact r_lret hX dX7_position_111
          · have hf := ite_t h hf
            refine r_aload_n hX dX7_position_61 rfl 1 rfl ?_
            refine r_get hX cls7 (MK0 hW) (by decide) (ce8 (MK0 hW)) 18 (by decide) g3_79 rfl dX7_position_62 (rf w 16) rfl ?_
            refine r_iload hX dX7_position_65 0 rfl ?_
            obtain ⟨hi10, hf⟩ := grd_some hf
            refine r_lald hX (MK16 hW) (ML16 hW) hi10 dX7_position_67 ?_
            refine r_goto hX dX7_position_68 (tgt := 111) (by decide) ?_
            cases hf
            exact r_lret hX dX7_position_111
        · have hf := ite_t h hf
          exact J.sub [] rfl (wX7_position_b39 hX hW   hf)
theorem miX7_position : MI yX7_position cX7_position 6 (some .long) 4 := ⟨g3_193, ⟨by decide, by decide, by decide +kernel⟩, g1_6, by decide +kernel⟩
theorem cX7_position_ok (l : Launch) {w : Wp} {σ : St} {r : Int64} {σ' : St} {x1 : Int32} {x2 : Int32} {x3 : Int32} {x4 : Int32} (hW : MW w)  (hf : fX7_position σ x1 x2 x3 x4 = some (r, σ')) : CM l w yX7_position cX7_position 6 (some .long) (rmz 3 68) [rf w 0, .int x1, .int x2, .int x3, .int x4] σ (Ql w σ' r) := CM.of miX7_position.2.2.2 (Nat.le_of_ble_eq_true rfl) (fun X hcl hX => J.sub [0, 1, 2, 3, 4] rfl (wX7_position_b0 hX hW  hf))
-- X7_common
set_option maxRecDepth 20000 in
set_option maxHeartbeats 2000000 in
theorem wX7_common_L17 {X : Cx} {w : Wp} {σ : St} {r : Int64}  (hX : OK X w cX7_common 10 RX7 (some .long) (rmz 0 0) (Ql w σ r))   : ∀ (n : Nat) (x4 : Int64) (x6 : Int64), fX7_common_L17 n x4 x6 = some r → J X w 10 σ 17 [(4, .long x4), (6, .long x6)] [] := by
  intro n
  induction n with
  | zero =>
    intro x4 x6 hf
    cases hf
  | succ n ih =>
    intro x4 x6 hf
    rw [fX7_common_L17] at hf
    refine r_lload hX dX7_common_17 1 rfl ?_
    refine r_lconst hX dX7_common_19 (v := (0 : Int64)) (by decide) ?_
    refine r_lcmp_eq hX dX7_common_20 dX7_common_21 (tgt := 42) (by decide) (fun h => ?_) (fun h => ?_)
    · have hf := ite_t h hf
      refine r_lload hX dX7_common_42 0 rfl ?_
      cases hf
      exact r_lret hX dX7_common_44
    · have hf := ite_f h hf
      refine r_lload hX dX7_common_24 0 rfl ?_
      refine r_lload hX dX7_common_26 1 rfl ?_
      obtain ⟨hd1, hf⟩ := dvL_some hf
      refine r_lrem hX dX7_common_28 hd1 ?_
      refine r_lstore hX (i := 8) dX7_common_29 (by decide) rfl ?_
      refine r_lload hX dX7_common_31 2 rfl ?_
      refine r_lstore hX (i := 4) dX7_common_33 (by decide) rfl ?_
      refine r_lload hX dX7_common_35 1 rfl ?_
      refine r_lstore hX (i := 6) dX7_common_37 (by decide) rfl ?_
      refine r_goto hX dX7_common_39 (tgt := 17) (by decide) ?_
      exact J.sub [1, 0] rfl (ih _ _  hf)
set_option maxRecDepth 20000 in
set_option maxHeartbeats 2000000 in
theorem wX7_common_b12 {X : Cx} {w : Wp} {σ : St} {r : Int64}  {x2 : Int64} {xs0 : Int64} (hX : OK X w cX7_common 10 RX7 (some .long) (rmz 0 0) (Ql w σ r))    (hf : fX7_common_b12 x2 xs0 = some r) : J X w 10 σ 12 [(2, .long x2)] [.long xs0] := by
  rw [fX7_common_b12] at hf
  refine r_lstore hX (i := 4) dX7_common_12 (by decide) rfl ?_
  refine r_lload_n hX dX7_common_14 rfl 1 rfl ?_
  refine r_lstore hX (i := 6) dX7_common_15 (by decide) rfl ?_
  exact J.sub [1, 0] rfl (wX7_common_L17 hX   _ _ _  hf)
set_option maxRecDepth 20000 in
set_option maxHeartbeats 2000000 in
theorem wX7_common_b0 {X : Cx} {w : Wp} {σ : St} {r : Int64}  {x0 : Int64} {x2 : Int64} (hX : OK X w cX7_common 10 RX7 (some .long) (rmz 0 0) (Ql w σ r))    (hf : fX7_common x0 x2 = some r) : J X w 10 σ 0 [(0, .long x0), (2, .long x2)] [] := by
  rw [fX7_common] at hf
  refine r_lload_n hX dX7_common_0 rfl 0 rfl ?_
  refine r_lconst hX dX7_common_1 (v := (0 : Int64)) (by decide) ?_
  refine r_lcmp_ge hX dX7_common_2 dX7_common_3 (tgt := 11) (by decide) (fun h => ?_) (fun h => ?_)
  · have hf := ite_t h hf
    refine r_lload_n hX dX7_common_11 rfl 0 rfl ?_
    exact J.sub [1] rfl (wX7_common_b12 hX    hf)
  · have hf := ite_f h hf
    refine r_lload_n hX dX7_common_6 rfl 0 rfl ?_
    refine r_lneg hX dX7_common_7 ?_
    refine r_goto hX dX7_common_8 (tgt := 12) (by decide) ?_
    exact J.sub [1] rfl (wX7_common_b12 hX    hf)
theorem miX7_common : MI yX7_common cX7_common 10 (some .long) 2 := ⟨g4_0, ⟨by decide, by decide, by decide +kernel⟩, g1_6, by decide +kernel⟩
theorem cX7_common_ok (l : Launch) {w : Wp} {σ : St} {r : Int64} {x0 : Int64} {x2 : Int64}   (hf : fX7_common x0 x2 = some r) : CM l w yX7_common cX7_common 10 (some .long) (rmz 0 0) [.long x0, .long x2] σ (Ql w σ r) := CM.of miX7_common.2.2.2 (Nat.le_of_ble_eq_true rfl) (fun X hcl hX => J.sub [0, 1] rfl (wX7_common_b0 hX   hf))
-- X7_partOf
set_option maxRecDepth 20000 in
set_option maxHeartbeats 2000000 in
theorem wX7_partOf_b10 {X : Cx} {w : Wp} {σ : St} {r : Int64}  {x0 : Int64} {x2 : Int64} {xs0 : Int64} (hX : OK X w cX7_partOf 5 RX7 (some .long) (rmz 1 29) (Ql w σ r))    (hf : fX7_partOf_b10 x0 x2 xs0 = some r) : J X w 5 σ 10 [(0, .long x0), (2, .long x2)] [.long xs0] := by
  rw [fX7_partOf_b10] at hf
  refine r_lload_n hX dX7_partOf_10 rfl 0 rfl ?_
  refine r_lload_n hX dX7_partOf_11 rfl 1 rfl ?_
  obtain ⟨r1, hr2, hf⟩ := bd_s hf
  refine J.calll (fun H locs ls a b c => runS hX miX7_common (cX7_common_ok (xl X)  hr2) g3_238 g3_239 ⟨Nat.le_of_ble_eq_true rfl, Nat.le_of_ble_eq_true rfl⟩ dX7_partOf_12 rfl (As := [.long x0, .long x2]) (rest := [.long xs0]) rfl (Nat.le_of_ble_eq_true rfl) a b c) ?_
  obtain ⟨hd3, hf⟩ := dvL_some hf
  refine r_ldiv hX dX7_partOf_15 hd3 ?_
  cases hf
  exact r_lret hX dX7_partOf_16
set_option maxRecDepth 20000 in
set_option maxHeartbeats 2000000 in
theorem wX7_partOf_b0 {X : Cx} {w : Wp} {σ : St} {r : Int64}  {x0 : Int64} {x2 : Int64} {x4 : Int32} (hX : OK X w cX7_partOf 5 RX7 (some .long) (rmz 1 29) (Ql w σ r))    (hf : fX7_partOf x0 x2 x4 = some r) : J X w 5 σ 0 [(0, .long x0), (2, .long x2), (4, .int x4)] [] := by
  rw [fX7_partOf] at hf
  refine r_iload hX dX7_partOf_0 2 rfl ?_
  refine r_if_ne hX dX7_partOf_2 (tgt := 9) (by decide) (fun h => ?_) (fun h => ?_)
  · have hf := ite_f h hf
    refine r_lload_n hX dX7_partOf_9 rfl 1 rfl ?_
    exact J.sub [0, 1] rfl (wX7_partOf_b10 hX    hf)
  · have hf := ite_t h hf
    refine r_lload_n hX dX7_partOf_5 rfl 0 rfl ?_
    refine r_goto hX dX7_partOf_6 (tgt := 10) (by decide) ?_
    exact J.sub [0, 1] rfl (wX7_partOf_b10 hX    hf)
theorem miX7_partOf : MI yX7_partOf cX7_partOf 5 (some .long) 3 := ⟨g3_237, ⟨by decide, by decide, by decide +kernel⟩, g1_6, by decide +kernel⟩
theorem cX7_partOf_ok (l : Launch) {w : Wp} {σ : St} {r : Int64} {x0 : Int64} {x2 : Int64} {x4 : Int32}   (hf : fX7_partOf x0 x2 x4 = some r) : CM l w yX7_partOf cX7_partOf 5 (some .long) (rmz 1 29) [.long x0, .long x2, .int x4] σ (Ql w σ r) := CM.of miX7_partOf.2.2.2 (Nat.le_of_ble_eq_true rfl) (fun X hcl hX => J.sub [0, 1, 2] rfl (wX7_partOf_b0 hX   hf))
-- X7_reach
set_option maxRecDepth 20000 in
set_option maxHeartbeats 2000000 in
theorem wX7_reach_b79 {X : Cx} {w : Wp} {σ : St} {r : Int64} {k33 : Int32 → Int32 → Int32 → Int64 → Int32 → Option Int64} {x1 : Int32} {x2 : Int32} {x3 : Int32} {x6 : Int32} {xs0 : Int64} {xs1 : Int64} {xs2 : Int64} (hX : OK X w cX7_reach 7 RX7 (some .long) (rmz 1 23) (Ql w σ r)) (hW : MW w) (hk33 : ∀ (x1 : Int32) (x2 : Int32) (x3 : Int32) (x4 : Int64) (x6 : Int32), k33 x1 x2 x3 x4 x6 = some r → J X w 7 σ 33 [(0, rf w 0), (1, .int x1), (2, .int x2), (3, .int x3), (4, .long x4), (6, .int x6)] [])  (hf : fX7_reach_b79 σ k33 x1 x2 x3 x6 xs0 xs1 xs2 = some r) : J X w 7 σ 79 [(0, rf w 0), (1, .int x1), (2, .int x2), (3, .int x3), (6, .int x6)] [.long xs2, .long xs1, .long xs0] := by
  rw [fX7_reach_b79] at hf
  refine r_lmul hX dX7_reach_79 ?_
  refine J.calll (fun H locs ls a b c => runS hX miX7_most (cX7_most_ok (xl X)  rfl) g3_232 g3_233 ⟨Nat.le_of_ble_eq_true rfl, Nat.le_of_ble_eq_true rfl⟩ dX7_reach_80 rfl (As := [.long xs0, .long (xs1 * xs2)]) (rest := []) rfl (Nat.le_of_ble_eq_true rfl) a b c) ?_
  refine r_lstore hX (i := 4) dX7_reach_83 (by decide) rfl ?_
  refine r_iincC hX dX7_reach_85 5 rfl (d := (1 : Int32)) (by decide) (by decide) rfl ?_
  refine r_goto hX dX7_reach_88 (tgt := 33) (by decide) ?_
  exact J.sub [2, 3, 4, 5, 1, 0] rfl (hk33 _ _ _ _ _  hf)
set_option maxRecDepth 20000 in
set_option maxHeartbeats 2000000 in
theorem wX7_reach_L33 {X : Cx} {w : Wp} {σ : St} {r : Int64}  (hX : OK X w cX7_reach 7 RX7 (some .long) (rmz 1 23) (Ql w σ r)) (hW : MW w)  : ∀ (n : Nat) (x1 : Int32) (x2 : Int32) (x3 : Int32) (x4 : Int64) (x6 : Int32), fX7_reach_L33 σ n x1 x2 x3 x4 x6 = some r → J X w 7 σ 33 [(0, rf w 0), (1, .int x1), (2, .int x2), (3, .int x3), (4, .long x4), (6, .int x6)] [] := by
  intro n
  induction n with
  | zero =>
    intro x1 x2 x3 x4 x6 hf
    cases hf
  | succ n ih =>
    intro x1 x2 x3 x4 x6 hf
    rw [fX7_reach_L33] at hf
    refine r_iload hX dX7_reach_33 5 rfl ?_
    refine r_aload_n hX dX7_reach_35 rfl 0 rfl ?_
    refine r_get hX cls7 (MK0 hW) (by decide) (ce8 (MK0 hW)) 5 (by decide) g3_66 rfl dX7_reach_36 (rf w 4) rfl ?_
    refine r_iload_n hX dX7_reach_39 rfl 1 rfl ?_
    obtain ⟨hi3, hf⟩ := grd_some hf
    refine r_iald hX (MK4 hW) (ML4 hW) hi3 dX7_reach_40 ?_
    refine r_icmp_gt hX dX7_reach_41 (tgt := 91) (by decide) (fun h => ?_) (fun h => ?_)
    · have hf := ite_t h hf
      refine r_lload hX dX7_reach_91 4 rfl ?_
      cases hf
      exact r_lret hX dX7_reach_93
    · have hf := ite_f h hf
      refine r_lload hX dX7_reach_44 4 rfl ?_
      refine r_iload_n hX dX7_reach_46 rfl 3 rfl ?_
      refine r_i2l hX dX7_reach_47 ?_
      refine r_iload_n hX dX7_reach_48 rfl 2 rfl ?_
      refine r_if_eq hX dX7_reach_49 (tgt := 67) (by decide) (fun h => ?_) (fun h => ?_)
      · have hf := ite_t h hf
        refine r_aload_n hX dX7_reach_67 rfl 0 rfl ?_
        refine r_get hX cls7 (MK0 hW) (by decide) (ce8 (MK0 hW)) 19 (by decide) g3_80 rfl dX7_reach_68 (rf w 17) rfl ?_
        refine r_bipush hX dX7_reach_71 (v := (9 : Int32)) (by decide) ?_
        refine r_iload_n hX dX7_reach_73 rfl 1 rfl ?_
        refine r_imul hX dX7_reach_74 ?_
        refine r_iload hX dX7_reach_75 5 rfl ?_
        refine r_iadd hX dX7_reach_77 ?_
        obtain ⟨hi1, hf⟩ := grd_some hf
        refine r_lald hX (MK17 hW) (ML17 hW) hi1 dX7_reach_78 ?_
        exact J.sub [0, 1, 2, 3, 5] rfl (wX7_reach_b79 hX hW ih  hf)
      · have hf := ite_f h hf
        refine r_aload_n hX dX7_reach_52 rfl 0 rfl ?_
        refine r_get hX cls7 (MK0 hW) (by decide) (ce8 (MK0 hW)) 18 (by decide) g3_79 rfl dX7_reach_53 (rf w 16) rfl ?_
        refine r_bipush hX dX7_reach_56 (v := (9 : Int32)) (by decide) ?_
        refine r_iload_n hX dX7_reach_58 rfl 1 rfl ?_
        refine r_imul hX dX7_reach_59 ?_
        refine r_iload hX dX7_reach_60 5 rfl ?_
        refine r_iadd hX dX7_reach_62 ?_
        obtain ⟨hi2, hf⟩ := grd_some hf
        refine r_lald hX (MK16 hW) (ML16 hW) hi2 dX7_reach_63 ?_
        refine r_goto hX dX7_reach_64 (tgt := 79) (by decide) ?_
        exact J.sub [0, 1, 2, 3, 5] rfl (wX7_reach_b79 hX hW ih  hf)
set_option maxRecDepth 20000 in
set_option maxHeartbeats 2000000 in
theorem wX7_reach_b27 {X : Cx} {w : Wp} {σ : St} {r : Int64}  {x1 : Int32} {x2 : Int32} {x3 : Int32} {xs0 : Int64} {xs1 : Int64} (hX : OK X w cX7_reach 7 RX7 (some .long) (rmz 1 23) (Ql w σ r)) (hW : MW w)   (hf : fX7_reach_b27 σ x1 x2 x3 xs0 xs1 = some r) : J X w 7 σ 27 [(0, rf w 0), (1, .int x1), (2, .int x2), (3, .int x3)] [.long xs1, .long xs0] := by
  rw [fX7_reach_b27] at hf
  refine r_lmul hX dX7_reach_27 ?_
  refine r_lstore hX (i := 4) dX7_reach_28 (by decide) rfl ?_
  refine r_iconst hX dX7_reach_30 (v := (1 : Int32)) (by decide) ?_
  refine r_istore hX (i := 6) dX7_reach_31 (by decide) rfl ?_
  exact J.sub [2, 3, 4, 5, 1, 0] rfl (wX7_reach_L33 hX hW  _ _ _ _ _ _  hf)
set_option maxRecDepth 20000 in
set_option maxHeartbeats 2000000 in
theorem wX7_reach_b0 {X : Cx} {w : Wp} {σ : St} {r : Int64}  {x1 : Int32} {x2 : Int32} {x3 : Int32} (hX : OK X w cX7_reach 7 RX7 (some .long) (rmz 1 23) (Ql w σ r)) (hW : MW w)   (hf : fX7_reach σ x1 x2 x3 = some r) : J X w 7 σ 0 [(0, rf w 0), (1, .int x1), (2, .int x2), (3, .int x3)] [] := by
  rw [fX7_reach] at hf
  refine r_iload_n hX dX7_reach_0 rfl 3 rfl ?_
  refine r_i2l hX dX7_reach_1 ?_
  refine r_iload_n hX dX7_reach_2 rfl 2 rfl ?_
  refine r_if_eq hX dX7_reach_3 (tgt := 18) (by decide) (fun h => ?_) (fun h => ?_)
  · have hf := ite_t h hf
    refine r_aload_n hX dX7_reach_18 rfl 0 rfl ?_
    refine r_get hX cls7 (MK0 hW) (by decide) (ce8 (MK0 hW)) 19 (by decide) g3_80 rfl dX7_reach_19 (rf w 17) rfl ?_
    refine r_bipush hX dX7_reach_22 (v := (9 : Int32)) (by decide) ?_
    refine r_iload_n hX dX7_reach_24 rfl 1 rfl ?_
    refine r_imul hX dX7_reach_25 ?_
    obtain ⟨hi1, hf⟩ := grd_some hf
    refine r_lald hX (MK17 hW) (ML17 hW) hi1 dX7_reach_26 ?_
    exact J.sub [0, 1, 2, 3] rfl (wX7_reach_b27 hX hW   hf)
  · have hf := ite_f h hf
    refine r_aload_n hX dX7_reach_6 rfl 0 rfl ?_
    refine r_get hX cls7 (MK0 hW) (by decide) (ce8 (MK0 hW)) 18 (by decide) g3_79 rfl dX7_reach_7 (rf w 16) rfl ?_
    refine r_bipush hX dX7_reach_10 (v := (9 : Int32)) (by decide) ?_
    refine r_iload_n hX dX7_reach_12 rfl 1 rfl ?_
    refine r_imul hX dX7_reach_13 ?_
    obtain ⟨hi2, hf⟩ := grd_some hf
    refine r_lald hX (MK16 hW) (ML16 hW) hi2 dX7_reach_14 ?_
    refine r_goto hX dX7_reach_15 (tgt := 27) (by decide) ?_
    exact J.sub [0, 1, 2, 3] rfl (wX7_reach_b27 hX hW   hf)
theorem miX7_reach : MI yX7_reach cX7_reach 7 (some .long) 3 := ⟨g3_231, ⟨by decide, by decide, by decide +kernel⟩, g1_6, by decide +kernel⟩
theorem cX7_reach_ok (l : Launch) {w : Wp} {σ : St} {r : Int64} {x1 : Int32} {x2 : Int32} {x3 : Int32} (hW : MW w)  (hf : fX7_reach σ x1 x2 x3 = some r) : CM l w yX7_reach cX7_reach 7 (some .long) (rmz 1 23) [rf w 0, .int x1, .int x2, .int x3] σ (Ql w σ r) := CM.of miX7_reach.2.2.2 (Nat.le_of_ble_eq_true rfl) (fun X hcl hX => J.sub [0, 1, 2, 3] rfl (wX7_reach_b0 hX hW  hf))
-- X7_measure
set_option maxRecDepth 20000 in
set_option maxHeartbeats 2000000 in
theorem wX7_measure_b0 {X : Cx} {w : Wp} {σ : St} {r : Int64}  {x1 : Int32} {x2 : Int32} (hX : OK X w cX7_measure 3 RX7 (some .long) (rmz 2 49) (Ql w σ r)) (hW : MW w)   (hf : fX7_measure σ x1 x2 = some r) : J X w 3 σ 0 [(0, rf w 0), (1, .int x1), (2, .int x2)] [] := by
  rw [fX7_measure] at hf
  refine r_iload_n hX dX7_measure_0 rfl 2 rfl ?_
  refine r_sw5 (x := x2) (fun h => ?_) (fun h => ?_) (fun h => ?_) (fun h => ?_) (fun h => ?_) (fun h => ?_)
  · refine r_tabOut hX dX7_measure_1 (by first | exact h | omega) (tgt := 86) (by decide) ?_
    have hf := ite_f (sw_ne h 0 (by decide) (by decide)) hf
    have hf := ite_f (sw_ne h 1 (by decide) (by decide)) hf
    have hf := ite_f (sw_ne h 2 (by decide) (by decide)) hf
    have hf := ite_f (sw_ne h 3 (by decide) (by decide)) hf
    have hf := ite_f (sw_ne h 4 (by decide) (by decide)) hf
    refine r_aload_n hX dX7_measure_86 rfl 0 rfl ?_
    refine r_iload_n hX dX7_measure_87 rfl 1 rfl ?_
    refine r_iconst hX dX7_measure_88 (v := (0 : Int32)) (by decide) ?_
    refine r_iconst hX dX7_measure_89 (v := (1 : Int32)) (by decide) ?_
    obtain ⟨r1, hr2, hf⟩ := bd_s hf
    refine J.calll (fun H locs ls a b c => runV hX miX7_reach (As := [.int x1, .int (0 : Int32), .int (1 : Int32)]) (cX7_reach_ok (xl X) hW  hr2) g3_228 g3_230 gs_25 cls7 (MK0 hW) (by decide) (ce8 (MK0 hW)) ⟨Nat.le_of_ble_eq_true rfl, Nat.le_of_ble_eq_true rfl⟩ dX7_measure_90 rfl (rest := []) rfl (Nat.le_of_ble_eq_true rfl) a b c) ?_
    refine r_aload_n hX dX7_measure_93 rfl 0 rfl ?_
    refine r_iload_n hX dX7_measure_94 rfl 1 rfl ?_
    refine r_iconst hX dX7_measure_95 (v := (0 : Int32)) (by decide) ?_
    refine r_iconst hX dX7_measure_96 (v := (-1 : Int32)) (by decide) ?_
    obtain ⟨r3, hr4, hf⟩ := bd_s hf
    refine J.calll (fun H locs ls a b c => runV hX miX7_reach (As := [.int x1, .int (0 : Int32), .int (-1 : Int32)]) (cX7_reach_ok (xl X) hW  hr4) g3_228 g3_230 gs_25 cls7 (MK0 hW) (by decide) (ce8 (MK0 hW)) ⟨Nat.le_of_ble_eq_true rfl, Nat.le_of_ble_eq_true rfl⟩ dX7_measure_97 rfl (rest := [.long r1]) rfl (Nat.le_of_ble_eq_true rfl) a b c) ?_
    refine r_ladd hX dX7_measure_100 ?_
    cases hf
    exact r_lret hX dX7_measure_101
  · have hf := ite_t h hf
    refine r_tabIn hX dX7_measure_1 (by rw [h]; decide) (by rw [h]; decide) (off := 35) (by rw [h]; rfl) (tgt := 36) (by decide) ?_
    refine r_aload_n hX dX7_measure_36 rfl 0 rfl ?_
    refine r_iload_n hX dX7_measure_37 rfl 1 rfl ?_
    refine r_iconst hX dX7_measure_38 (v := (1 : Int32)) (by decide) ?_
    refine r_iconst hX dX7_measure_39 (v := (-1 : Int32)) (by decide) ?_
    obtain ⟨r17, hr18, hf⟩ := bd_s hf
    refine J.calll (fun H locs ls a b c => runV hX miX7_reach (As := [.int x1, .int (1 : Int32), .int (-1 : Int32)]) (cX7_reach_ok (xl X) hW  hr18) g3_228 g3_230 gs_25 cls7 (MK0 hW) (by decide) (ce8 (MK0 hW)) ⟨Nat.le_of_ble_eq_true rfl, Nat.le_of_ble_eq_true rfl⟩ dX7_measure_40 rfl (rest := []) rfl (Nat.le_of_ble_eq_true rfl) a b c) ?_
    refine r_lneg hX dX7_measure_43 ?_
    cases hf
    exact r_lret hX dX7_measure_44
  · have hf := ite_f (sw_nk (j := 0) h (by decide)) hf
    have hf := ite_t h hf
    refine r_tabIn hX dX7_measure_1 (by rw [h]; decide) (by rw [h]; decide) (off := 44) (by rw [h]; rfl) (tgt := 45) (by decide) ?_
    refine r_aload_n hX dX7_measure_45 rfl 0 rfl ?_
    refine r_iload_n hX dX7_measure_46 rfl 1 rfl ?_
    refine r_iconst hX dX7_measure_47 (v := (1 : Int32)) (by decide) ?_
    refine r_iconst hX dX7_measure_48 (v := (1 : Int32)) (by decide) ?_
    obtain ⟨r19, hr20, hf⟩ := bd_s hf
    refine J.calll (fun H locs ls a b c => runV hX miX7_reach (As := [.int x1, .int (1 : Int32), .int (1 : Int32)]) (cX7_reach_ok (xl X) hW  hr20) g3_228 g3_230 gs_25 cls7 (MK0 hW) (by decide) (ce8 (MK0 hW)) ⟨Nat.le_of_ble_eq_true rfl, Nat.le_of_ble_eq_true rfl⟩ dX7_measure_49 rfl (rest := []) rfl (Nat.le_of_ble_eq_true rfl) a b c) ?_
    cases hf
    exact r_lret hX dX7_measure_52
  · have hf := ite_f (sw_nk (j := 0) h (by decide)) hf
    have hf := ite_f (sw_nk (j := 1) h (by decide)) hf
    have hf := ite_t h hf
    refine r_tabIn hX dX7_measure_1 (by rw [h]; decide) (by rw [h]; decide) (off := 52) (by rw [h]; rfl) (tgt := 53) (by decide) ?_
    refine r_aload_n hX dX7_measure_53 rfl 0 rfl ?_
    refine r_iload_n hX dX7_measure_54 rfl 1 rfl ?_
    refine r_iconst hX dX7_measure_55 (v := (0 : Int32)) (by decide) ?_
    refine r_iconst hX dX7_measure_56 (v := (-1 : Int32)) (by decide) ?_
    obtain ⟨r21, hr22, hf⟩ := bd_s hf
    refine J.calll (fun H locs ls a b c => runV hX miX7_reach (As := [.int x1, .int (0 : Int32), .int (-1 : Int32)]) (cX7_reach_ok (xl X) hW  hr22) g3_228 g3_230 gs_25 cls7 (MK0 hW) (by decide) (ce8 (MK0 hW)) ⟨Nat.le_of_ble_eq_true rfl, Nat.le_of_ble_eq_true rfl⟩ dX7_measure_57 rfl (rest := []) rfl (Nat.le_of_ble_eq_true rfl) a b c) ?_
    refine r_lneg hX dX7_measure_60 ?_
    cases hf
    exact r_lret hX dX7_measure_61
  · have hf := ite_f (sw_nk (j := 0) h (by decide)) hf
    have hf := ite_f (sw_nk (j := 1) h (by decide)) hf
    have hf := ite_f (sw_nk (j := 2) h (by decide)) hf
    have hf := ite_t h hf
    refine r_tabIn hX dX7_measure_1 (by rw [h]; decide) (by rw [h]; decide) (off := 61) (by rw [h]; rfl) (tgt := 62) (by decide) ?_
    refine r_aload_n hX dX7_measure_62 rfl 0 rfl ?_
    refine r_iload_n hX dX7_measure_63 rfl 1 rfl ?_
    refine r_iconst hX dX7_measure_64 (v := (0 : Int32)) (by decide) ?_
    refine r_iconst hX dX7_measure_65 (v := (1 : Int32)) (by decide) ?_
    obtain ⟨r23, hr24, hf⟩ := bd_s hf
    refine J.calll (fun H locs ls a b c => runV hX miX7_reach (As := [.int x1, .int (0 : Int32), .int (1 : Int32)]) (cX7_reach_ok (xl X) hW  hr24) g3_228 g3_230 gs_25 cls7 (MK0 hW) (by decide) (ce8 (MK0 hW)) ⟨Nat.le_of_ble_eq_true rfl, Nat.le_of_ble_eq_true rfl⟩ dX7_measure_66 rfl (rest := []) rfl (Nat.le_of_ble_eq_true rfl) a b c) ?_
    cases hf
    exact r_lret hX dX7_measure_69
  · have hf := ite_f (sw_nk (j := 0) h (by decide)) hf
    have hf := ite_f (sw_nk (j := 1) h (by decide)) hf
    have hf := ite_f (sw_nk (j := 2) h (by decide)) hf
    have hf := ite_f (sw_nk (j := 3) h (by decide)) hf
    have hf := ite_t h hf
    refine r_tabIn hX dX7_measure_1 (by rw [h]; decide) (by rw [h]; decide) (off := 69) (by rw [h]; rfl) (tgt := 70) (by decide) ?_
    refine r_aload_n hX dX7_measure_70 rfl 0 rfl ?_
    refine r_iload_n hX dX7_measure_71 rfl 1 rfl ?_
    refine r_iconst hX dX7_measure_72 (v := (1 : Int32)) (by decide) ?_
    refine r_iconst hX dX7_measure_73 (v := (1 : Int32)) (by decide) ?_
    obtain ⟨r25, hr26, hf⟩ := bd_s hf
    refine J.calll (fun H locs ls a b c => runV hX miX7_reach (As := [.int x1, .int (1 : Int32), .int (1 : Int32)]) (cX7_reach_ok (xl X) hW  hr26) g3_228 g3_230 gs_25 cls7 (MK0 hW) (by decide) (ce8 (MK0 hW)) ⟨Nat.le_of_ble_eq_true rfl, Nat.le_of_ble_eq_true rfl⟩ dX7_measure_74 rfl (rest := []) rfl (Nat.le_of_ble_eq_true rfl) a b c) ?_
    refine r_aload_n hX dX7_measure_77 rfl 0 rfl ?_
    refine r_iload_n hX dX7_measure_78 rfl 1 rfl ?_
    refine r_iconst hX dX7_measure_79 (v := (1 : Int32)) (by decide) ?_
    refine r_iconst hX dX7_measure_80 (v := (-1 : Int32)) (by decide) ?_
    obtain ⟨r27, hr28, hf⟩ := bd_s hf
    refine J.calll (fun H locs ls a b c => runV hX miX7_reach (As := [.int x1, .int (1 : Int32), .int (-1 : Int32)]) (cX7_reach_ok (xl X) hW  hr28) g3_228 g3_230 gs_25 cls7 (MK0 hW) (by decide) (ce8 (MK0 hW)) ⟨Nat.le_of_ble_eq_true rfl, Nat.le_of_ble_eq_true rfl⟩ dX7_measure_81 rfl (rest := [.long r25]) rfl (Nat.le_of_ble_eq_true rfl) a b c) ?_
    refine r_ladd hX dX7_measure_84 ?_
    cases hf
    exact r_lret hX dX7_measure_85
theorem miX7_measure : MI yX7_measure cX7_measure 3 (some .long) 2 := ⟨g3_227, ⟨by decide, by decide, by decide +kernel⟩, g1_6, by decide +kernel⟩
theorem cX7_measure_ok (l : Launch) {w : Wp} {σ : St} {r : Int64} {x1 : Int32} {x2 : Int32} (hW : MW w)  (hf : fX7_measure σ x1 x2 = some r) : CM l w yX7_measure cX7_measure 3 (some .long) (rmz 2 49) [rf w 0, .int x1, .int x2] σ (Ql w σ r) := CM.of miX7_measure.2.2.2 (Nat.le_of_ble_eq_true rfl) (fun X hcl hX => J.sub [0, 1, 2] rfl (wX7_measure_b0 hX hW  hf))
-- X7_box
set_option maxRecDepth 20000 in
set_option maxHeartbeats 2000000 in
theorem wX7_box_b34 {X : Cx} {w : Wp} {σ : St} {r : Int64} {σ' : St}   (hX : OK X w cX7_box 5 RX7 (some .long) (rmz 3 71) (Ql w σ' r)) (hW : MW w)   (hf : fX7_box_b34 σ = some (r, σ')) : J X w 5 σ 34 [] [] := by
  rw [fX7_box_b34] at hf
  refine J.calll (fun H locs ls a b c => runS hX miX7_lost (cX7_lost_ok (xl X)  rfl) g3_194 g3_195 ⟨Nat.le_of_ble_eq_true rfl, Nat.le_of_ble_eq_true rfl⟩ dX7_box_34 rfl (As := []) (rest := []) rfl (Nat.le_of_ble_eq_true rfl) a b c) ?_
  cases hf
  exact r_lret hX dX7_box_37
set_option maxRecDepth 20000 in
set_option maxHeartbeats 2000000 in
theorem wX7_box_b0 {X : Cx} {w : Wp} {σ : St} {r : Int64} {σ' : St}  {x1 : Int32} {x2 : Int32} {x3 : Int32} {x4 : Int32} (hX : OK X w cX7_box 5 RX7 (some .long) (rmz 3 71) (Ql w σ' r)) (hW : MW w)   (hf : fX7_box σ x1 x2 x3 x4 = some (r, σ')) : J X w 5 σ 0 [(0, rf w 0), (1, .int x1), (2, .int x2), (3, .int x3), (4, .int x4)] [] := by
  rw [fX7_box] at hf
  refine r_aload_n hX dX7_box_0 rfl 0 rfl ?_
  refine r_iload_n hX dX7_box_1 rfl 1 rfl ?_
  refine J.callz (fun H locs ls a b c => runV hX miX7_noFigure (As := [.int x1]) (cX7_noFigure_ok (xl X) hW  rfl) g3_159 g3_161 gs_17 cls7 (MK0 hW) (by decide) (ce8 (MK0 hW)) ⟨Nat.le_of_ble_eq_true rfl, Nat.le_of_ble_eq_true rfl⟩ dX7_box_2 rfl (rest := []) rfl (Nat.le_of_ble_eq_true rfl) a b c) (fun hz1 => ?_)
  refine r_if_ne hX dX7_box_5 (tgt := 34) (by decide) (fun h => ?_) (fun h => ?_)
  · have hf := ite_f h hf
    exact J.sub [] rfl (wX7_box_b34 hX hW   hf)
  · have hf := ite_t h hf
    refine r_iload_n hX dX7_box_8 rfl 2 rfl ?_
    refine J.callz (fun H locs ls a b c => runS hX miX7_isBeat (cX7_isBeat_ok (xl X)  rfl) g3_175 g3_176 ⟨Nat.le_of_ble_eq_true rfl, Nat.le_of_ble_eq_true rfl⟩ dX7_box_9 rfl (As := [.int x2]) (rest := []) rfl (Nat.le_of_ble_eq_true rfl) a b c) (fun hz2 => ?_)
    refine r_if_eq hX dX7_box_12 (tgt := 34) (by decide) (fun h => ?_) (fun h => ?_)
    · have hf := ite_t h hf
      exact J.sub [] rfl (wX7_box_b34 hX hW   hf)
    · have hf := ite_f h hf
      refine r_iload_n hX dX7_box_15 rfl 3 rfl ?_
      refine r_iconst hX dX7_box_16 (v := (0 : Int32)) (by decide) ?_
      refine r_iconst hX dX7_box_17 (v := (5 : Int32)) (by decide) ?_
      refine J.callz (fun H locs ls a b c => runS hX miX7_in (cX7_in_ok (xl X)  rfl) g3_148 g3_149 ⟨Nat.le_of_ble_eq_true rfl, Nat.le_of_ble_eq_true rfl⟩ dX7_box_18 rfl (As := [.int x3, .int (0 : Int32), .int (5 : Int32)]) (rest := []) rfl (Nat.le_of_ble_eq_true rfl) a b c) (fun hz3 => ?_)
      refine r_if_eq hX dX7_box_21 (tgt := 34) (by decide) (fun h => ?_) (fun h => ?_)
      · have hf := ite_t h hf
        exact J.sub [] rfl (wX7_box_b34 hX hW   hf)
      · have hf := ite_f h hf
        refine r_iload hX dX7_box_24 4 rfl ?_
        refine r_iconst hX dX7_box_26 (v := (0 : Int32)) (by decide) ?_
        refine r_iconst hX dX7_box_27 (v := (1 : Int32)) (by decide) ?_
        refine J.callz (fun H locs ls a b c => runS hX miX7_in (cX7_in_ok (xl X)  rfl) g3_148 g3_149 ⟨Nat.le_of_ble_eq_true rfl, Nat.le_of_ble_eq_true rfl⟩ dX7_box_28 rfl (As := [.int x4, .int (0 : Int32), .int (1 : Int32)]) (rest := []) rfl (Nat.le_of_ble_eq_true rfl) a b c) (fun hz4 => ?_)
        refine r_if_ne hX dX7_box_31 (tgt := 38) (by decide) (fun h => ?_) (fun h => ?_)
        · have hf := ite_f h hf
          refine r_aload_n hX dX7_box_38 rfl 0 rfl ?_
          refine r_iload_n hX dX7_box_39 rfl 2 rfl ?_
          obtain ⟨σ5, hr6, hf⟩ := bd_s hf
          refine J.callv (fun H locs ls a b c => runV hX miX7_goTo (As := [.int x2]) (cX7_goTo_ok (xl X) hW  hr6) g3_198 g3_200 gs_20 cls7 (MK0 hW) (by decide) (ce8 (MK0 hW)) ⟨Nat.le_of_ble_eq_true rfl, Nat.le_of_ble_eq_true rfl⟩ dX7_box_40 rfl (rest := []) rfl (Nat.le_of_ble_eq_true rfl) a b c) ?_
          refine r_aload_n hX dX7_box_43 rfl 0 rfl ?_
          refine r_iload_n hX dX7_box_44 rfl 1 rfl ?_
          refine r_iload_n hX dX7_box_45 rfl 3 rfl ?_
          obtain ⟨r7, hr8, hf⟩ := bd_s hf
          refine J.calll (fun H locs ls a b c => runV hX miX7_measure (As := [.int x1, .int x3]) (cX7_measure_ok (xl X) hW  hr8) g3_224 g3_226 gs_24 cls7 (MK0 hW) (by decide) (ce8 (MK0 hW)) ⟨Nat.le_of_ble_eq_true rfl, Nat.le_of_ble_eq_true rfl⟩ dX7_box_46 rfl (rest := []) rfl (Nat.le_of_ble_eq_true rfl) a b c) ?_
          refine r_aload_n hX dX7_box_49 rfl 0 rfl ?_
          refine r_get hX cls7 (MK0 hW) (by decide) (ce8 (MK0 hW)) 0 (by decide) g3_61 rfl dX7_box_50 (.int (σ5.1 0 0)) rfl ?_
          refine r_i2l hX dX7_box_53 ?_
          refine r_lmul hX dX7_box_54 ?_
          refine r_aload_n hX dX7_box_55 rfl 0 rfl ?_
          refine r_get hX cls7 (MK0 hW) (by decide) (ce8 (MK0 hW)) 16 (by decide) g3_77 rfl dX7_box_56 (rf w 14) rfl ?_
          refine r_iload_n hX dX7_box_59 rfl 1 rfl ?_
          obtain ⟨hi11, hf⟩ := grd_some hf
          refine r_iald hX (MK14 hW) (ML14 hW) hi11 dX7_box_60 ?_
          refine r_i2l hX dX7_box_61 ?_
          refine r_iload hX dX7_box_62 4 rfl ?_
          obtain ⟨r9, hr10, hf⟩ := bd_s hf
          refine J.calll (fun H locs ls a b c => runS hX miX7_partOf (cX7_partOf_ok (xl X)  hr10) g3_235 g3_236 ⟨Nat.le_of_ble_eq_true rfl, Nat.le_of_ble_eq_true rfl⟩ dX7_box_64 rfl (As := [.long (r7 * ((σ5.1 0 0)).toInt64), .long (((σ5.1 14 (ix x1))).toInt64), .int x4]) (rest := []) rfl (Nat.le_of_ble_eq_true rfl) a b c) ?_
          cases hf
          exact r_lret hX dX7_box_67
        · have hf := ite_t h hf
          exact J.sub [] rfl (wX7_box_b34 hX hW   hf)
theorem miX7_box : MI yX7_box cX7_box 5 (some .long) 4 := ⟨g3_223, ⟨by decide, by decide, by decide +kernel⟩, g1_6, by decide +kernel⟩
theorem cX7_box_ok (l : Launch) {w : Wp} {σ : St} {r : Int64} {σ' : St} {x1 : Int32} {x2 : Int32} {x3 : Int32} {x4 : Int32} (hW : MW w)  (hf : fX7_box σ x1 x2 x3 x4 = some (r, σ')) : CM l w yX7_box cX7_box 5 (some .long) (rmz 3 71) [rf w 0, .int x1, .int x2, .int x3, .int x4] σ (Ql w σ' r) := CM.of miX7_box.2.2.2 (Nat.le_of_ble_eq_true rfl) (fun X hcl hX => J.sub [0, 1, 2, 3, 4] rfl (wX7_box_b0 hX hW  hf))
-- X7_along
set_option maxRecDepth 20000 in
set_option maxHeartbeats 2000000 in
theorem wX7_along_b0 {X : Cx} {w : Wp} {σ : St} {r : Int64}  {x1 : Int32} {x2 : Int32} {x3 : Int32} {x4 : Int32} (hX : OK X w cX7_along 7 RX7 (some .long) (rmz 3 71) (Ql w σ r)) (hW : MW w)   (hf : fX7_along σ x1 x2 x3 x4 = some r) : J X w 7 σ 0 [(0, rf w 0), (1, .int x1), (2, .int x2), (3, .int x3), (4, .int x4)] [] := by
  rw [fX7_along] at hf
  refine r_aload_n hX dX7_along_0 rfl 0 rfl ?_
  refine r_iload_n hX dX7_along_1 rfl 1 rfl ?_
  refine r_iload hX dX7_along_2 4 rfl ?_
  obtain ⟨r1, hr2, hf⟩ := bd_s hf
  refine J.calll (fun H locs ls a b c => runV hX miX7_measure (As := [.int x1, .int x4]) (cX7_measure_ok (xl X) hW  hr2) g3_224 g3_226 gs_24 cls7 (MK0 hW) (by decide) (ce8 (MK0 hW)) ⟨Nat.le_of_ble_eq_true rfl, Nat.le_of_ble_eq_true rfl⟩ dX7_along_4 rfl (rest := []) rfl (Nat.le_of_ble_eq_true rfl) a b c) ?_
  refine r_aload_n hX dX7_along_7 rfl 0 rfl ?_
  refine r_get hX cls7 (MK0 hW) (by decide) (ce8 (MK0 hW)) 16 (by decide) g3_77 rfl dX7_along_8 (rf w 14) rfl ?_
  refine r_iload_n hX dX7_along_11 rfl 2 rfl ?_
  obtain ⟨hi12, hf⟩ := grd_some hf
  refine r_iald hX (MK14 hW) (ML14 hW) hi12 dX7_along_12 ?_
  refine r_i2l hX dX7_along_13 ?_
  refine r_lmul hX dX7_along_14 ?_
  refine r_aload_n hX dX7_along_15 rfl 0 rfl ?_
  refine r_iload_n hX dX7_along_16 rfl 2 rfl ?_
  refine r_iload hX dX7_along_17 4 rfl ?_
  obtain ⟨r3, hr4, hf⟩ := bd_s hf
  refine J.calll (fun H locs ls a b c => runV hX miX7_measure (As := [.int x2, .int x4]) (cX7_measure_ok (xl X) hW  hr4) g3_224 g3_226 gs_24 cls7 (MK0 hW) (by decide) (ce8 (MK0 hW)) ⟨Nat.le_of_ble_eq_true rfl, Nat.le_of_ble_eq_true rfl⟩ dX7_along_19 rfl (rest := [.long (r1 * ((σ.1 14 (ix x2))).toInt64)]) rfl (Nat.le_of_ble_eq_true rfl) a b c) ?_
  refine r_aload_n hX dX7_along_22 rfl 0 rfl ?_
  refine r_get hX cls7 (MK0 hW) (by decide) (ce8 (MK0 hW)) 16 (by decide) g3_77 rfl dX7_along_23 (rf w 14) rfl ?_
  refine r_iload_n hX dX7_along_26 rfl 1 rfl ?_
  obtain ⟨hi11, hf⟩ := grd_some hf
  refine r_iald hX (MK14 hW) (ML14 hW) hi11 dX7_along_27 ?_
  refine r_i2l hX dX7_along_28 ?_
  refine r_lmul hX dX7_along_29 ?_
  refine J.calll (fun H locs ls a b c => runS hX miX7_least (cX7_least_ok (xl X)  rfl) g4_9 g4_10 ⟨Nat.le_of_ble_eq_true rfl, Nat.le_of_ble_eq_true rfl⟩ dX7_along_30 rfl (As := [.long (r1 * ((σ.1 14 (ix x2))).toInt64), .long (r3 * ((σ.1 14 (ix x1))).toInt64)]) (rest := []) rfl (Nat.le_of_ble_eq_true rfl) a b c) ?_
  refine r_lstore hX (i := 5) dX7_along_33 (by decide) rfl ?_
  refine r_lload hX dX7_along_35 0 rfl ?_
  refine r_aload_n hX dX7_along_37 rfl 1 rfl ?_
  refine r_iload_n hX dX7_along_38 rfl 2 rfl ?_
  refine r_iload_n hX dX7_along_39 rfl 4 rfl ?_
  obtain ⟨r5, hr6, hf⟩ := bd_s hf
  refine J.calll (fun H locs ls a b c => runV hX miX7_measure (As := [.int x1, .int x3]) (cX7_measure_ok (xl X) hW  hr6) g3_224 g3_226 gs_24 cls7 (MK0 hW) (by decide) (ce8 (MK0 hW)) ⟨Nat.le_of_ble_eq_true rfl, Nat.le_of_ble_eq_true rfl⟩ dX7_along_40 rfl (rest := [.long (fX7_least (r1 * ((σ.1 14 (ix x2))).toInt64) (r3 * ((σ.1 14 (ix x1))).toInt64))]) rfl (Nat.le_of_ble_eq_true rfl) a b c) ?_
  refine r_aload_n hX dX7_along_43 rfl 1 rfl ?_
  refine r_get hX cls7 (MK0 hW) (by decide) (ce8 (MK0 hW)) 16 (by decide) g3_77 rfl dX7_along_44 (rf w 14) rfl ?_
  refine r_iload_n hX dX7_along_47 rfl 3 rfl ?_
  obtain ⟨hi10, hf⟩ := grd_some hf
  refine r_iald hX (MK14 hW) (ML14 hW) hi10 dX7_along_48 ?_
  refine r_i2l hX dX7_along_49 ?_
  refine r_lmul hX dX7_along_50 ?_
  refine r_aload_n hX dX7_along_51 rfl 1 rfl ?_
  refine r_iload_n hX dX7_along_52 rfl 3 rfl ?_
  refine r_iload_n hX dX7_along_53 rfl 4 rfl ?_
  obtain ⟨r7, hr8, hf⟩ := bd_s hf
  refine J.calll (fun H locs ls a b c => runV hX miX7_measure (As := [.int x2, .int x3]) (cX7_measure_ok (xl X) hW  hr8) g3_224 g3_226 gs_24 cls7 (MK0 hW) (by decide) (ce8 (MK0 hW)) ⟨Nat.le_of_ble_eq_true rfl, Nat.le_of_ble_eq_true rfl⟩ dX7_along_54 rfl (rest := [.long (r5 * ((σ.1 14 (ix x2))).toInt64), .long (fX7_least (r1 * ((σ.1 14 (ix x2))).toInt64) (r3 * ((σ.1 14 (ix x1))).toInt64))]) rfl (Nat.le_of_ble_eq_true rfl) a b c) ?_
  refine r_aload_n hX dX7_along_57 rfl 1 rfl ?_
  refine r_get hX cls7 (MK0 hW) (by decide) (ce8 (MK0 hW)) 16 (by decide) g3_77 rfl dX7_along_58 (rf w 14) rfl ?_
  refine r_iload_n hX dX7_along_61 rfl 2 rfl ?_
  obtain ⟨hi9, hf⟩ := grd_some hf
  refine r_iald hX (MK14 hW) (ML14 hW) hi9 dX7_along_62 ?_
  refine r_i2l hX dX7_along_63 ?_
  refine r_lmul hX dX7_along_64 ?_
  refine J.calll (fun H locs ls a b c => runS hX miX7_most (cX7_most_ok (xl X)  rfl) g3_232 g3_233 ⟨Nat.le_of_ble_eq_true rfl, Nat.le_of_ble_eq_true rfl⟩ dX7_along_65 rfl (As := [.long (r5 * ((σ.1 14 (ix x2))).toInt64), .long (r7 * ((σ.1 14 (ix x1))).toInt64)]) (rest := [.long (fX7_least (r1 * ((σ.1 14 (ix x2))).toInt64) (r3 * ((σ.1 14 (ix x1))).toInt64))]) rfl (Nat.le_of_ble_eq_true rfl) a b c) ?_
  refine r_lsub hX dX7_along_68 ?_
  cases hf
  exact r_lret hX dX7_along_69
theorem miX7_along : MI yX7_along cX7_along 7 (some .long) 4 := ⟨g4_8, ⟨by decide, by decide, by decide +kernel⟩, g1_6, by decide +kernel⟩
theorem cX7_along_ok (l : Launch) {w : Wp} {σ : St} {r : Int64} {x1 : Int32} {x2 : Int32} {x3 : Int32} {x4 : Int32} (hW : MW w)  (hf : fX7_along σ x1 x2 x3 x4 = some r) : CM l w yX7_along cX7_along 7 (some .long) (rmz 3 71) [rf w 0, .int x1, .int x2, .int x3, .int x4] σ (Ql w σ r) := CM.of miX7_along.2.2.2 (Nat.le_of_ble_eq_true rfl) (fun X hcl hX => J.sub [0, 1, 2, 3, 4] rfl (wX7_along_b0 hX hW  hf))
-- X7_overlap
set_option maxRecDepth 20000 in
set_option maxHeartbeats 2000000 in
theorem wX7_overlap_b33 {X : Cx} {w : Wp} {σ : St} {r : Int64} {σ' : St}   (hX : OK X w cX7_overlap 13 RX7 (some .long) (rmz 4 97) (Ql w σ' r)) (hW : MW w)   (hf : fX7_overlap_b33 σ = some (r, σ')) : J X w 13 σ 33 [] [] := by
  rw [fX7_overlap_b33] at hf
  refine J.calll (fun H locs ls a b c => runS hX miX7_lost (cX7_lost_ok (xl X)  rfl) g3_194 g3_195 ⟨Nat.le_of_ble_eq_true rfl, Nat.le_of_ble_eq_true rfl⟩ dX7_overlap_33 rfl (As := []) (rest := []) rfl (Nat.le_of_ble_eq_true rfl) a b c) ?_
  cases hf
  exact r_lret hX dX7_overlap_36
set_option maxRecDepth 20000 in
set_option maxHeartbeats 2000000 in
theorem wX7_overlap_b113 {X : Cx} {w : Wp} {σ : St} {r : Int64} {σ' : St}  {x4 : Int32} {x9 : Int64} {xs0 : Int64} (hX : OK X w cX7_overlap 13 RX7 (some .long) (rmz 4 97) (Ql w σ' r)) (hW : MW w)   (hf : fX7_overlap_b113 σ x4 x9 xs0 = some (r, σ')) : J X w 13 σ 113 [(4, .int x4), (9, .long x9)] [.long xs0] := by
  rw [fX7_overlap_b113] at hf
  refine r_lstore hX (i := 11) dX7_overlap_113 (by decide) rfl ?_
  refine r_lload hX dX7_overlap_115 0 rfl ?_
  refine r_lload hX dX7_overlap_117 2 rfl ?_
  refine r_lload hX dX7_overlap_119 2 rfl ?_
  refine r_lmul hX dX7_overlap_121 ?_
  refine r_iload hX dX7_overlap_122 1 rfl ?_
  obtain ⟨r1, hr2, hf⟩ := bd_s hf
  refine J.calll (fun H locs ls a b c => runS hX miX7_partOf (cX7_partOf_ok (xl X)  hr2) g3_235 g3_236 ⟨Nat.le_of_ble_eq_true rfl, Nat.le_of_ble_eq_true rfl⟩ dX7_overlap_124 rfl (As := [.long xs0, .long (x9 * x9), .int x4]) (rest := []) rfl (Nat.le_of_ble_eq_true rfl) a b c) ?_
  cases hf
  exact r_lret hX dX7_overlap_127
set_option maxRecDepth 20000 in
set_option maxHeartbeats 2000000 in
theorem wX7_overlap_b92 {X : Cx} {w : Wp} {σ : St} {r : Int64} {σ' : St}  {x4 : Int32} {x9 : Int64} (hX : OK X w cX7_overlap 13 RX7 (some .long) (rmz 4 97) (Ql w σ' r)) (hW : MW w)   (hf : fX7_overlap_b92 σ x4 x9 = some (r, σ')) : J X w 13 σ 92 [(4, .int x4), (9, .long x9)] [] := by
  rw [fX7_overlap_b92] at hf
  refine r_lconst hX dX7_overlap_92 (v := (0 : Int64)) (by decide) ?_
  refine r_goto hX dX7_overlap_93 (tgt := 113) (by decide) ?_
  exact J.sub [0, 1] rfl (wX7_overlap_b113 hX hW   hf)
set_option maxRecDepth 20000 in
set_option maxHeartbeats 2000000 in
theorem wX7_overlap_b0 {X : Cx} {w : Wp} {σ : St} {r : Int64} {σ' : St}  {x1 : Int32} {x2 : Int32} {x3 : Int32} {x4 : Int32} (hX : OK X w cX7_overlap 13 RX7 (some .long) (rmz 4 97) (Ql w σ' r)) (hW : MW w)   (hf : fX7_overlap σ x1 x2 x3 x4 = some (r, σ')) : J X w 13 σ 0 [(0, rf w 0), (1, .int x1), (2, .int x2), (3, .int x3), (4, .int x4)] [] := by
  rw [fX7_overlap] at hf
  refine r_aload_n hX dX7_overlap_0 rfl 0 rfl ?_
  refine r_iload_n hX dX7_overlap_1 rfl 1 rfl ?_
  refine J.callz (fun H locs ls a b c => runV hX miX7_noFigure (As := [.int x1]) (cX7_noFigure_ok (xl X) hW  rfl) g3_159 g3_161 gs_17 cls7 (MK0 hW) (by decide) (ce8 (MK0 hW)) ⟨Nat.le_of_ble_eq_true rfl, Nat.le_of_ble_eq_true rfl⟩ dX7_overlap_2 rfl (rest := []) rfl (Nat.le_of_ble_eq_true rfl) a b c) (fun hz1 => ?_)
  refine r_if_ne hX dX7_overlap_5 (tgt := 33) (by decide) (fun h => ?_) (fun h => ?_)
  · have hf := ite_f h hf
    exact J.sub [] rfl (wX7_overlap_b33 hX hW   hf)
  · have hf := ite_t h hf
    refine r_aload_n hX dX7_overlap_8 rfl 0 rfl ?_
    refine r_iload_n hX dX7_overlap_9 rfl 2 rfl ?_
    refine J.callz (fun H locs ls a b c => runV hX miX7_noFigure (As := [.int x2]) (cX7_noFigure_ok (xl X) hW  rfl) g3_159 g3_161 gs_17 cls7 (MK0 hW) (by decide) (ce8 (MK0 hW)) ⟨Nat.le_of_ble_eq_true rfl, Nat.le_of_ble_eq_true rfl⟩ dX7_overlap_10 rfl (rest := []) rfl (Nat.le_of_ble_eq_true rfl) a b c) (fun hz2 => ?_)
    refine r_if_ne hX dX7_overlap_13 (tgt := 33) (by decide) (fun h => ?_) (fun h => ?_)
    · have hf := ite_f h hf
      exact J.sub [] rfl (wX7_overlap_b33 hX hW   hf)
    · have hf := ite_t h hf
      refine r_iload_n hX dX7_overlap_16 rfl 3 rfl ?_
      refine J.callz (fun H locs ls a b c => runS hX miX7_isBeat (cX7_isBeat_ok (xl X)  rfl) g3_175 g3_176 ⟨Nat.le_of_ble_eq_true rfl, Nat.le_of_ble_eq_true rfl⟩ dX7_overlap_17 rfl (As := [.int x3]) (rest := []) rfl (Nat.le_of_ble_eq_true rfl) a b c) (fun hz3 => ?_)
      refine r_if_eq hX dX7_overlap_20 (tgt := 33) (by decide) (fun h => ?_) (fun h => ?_)
      · have hf := ite_t h hf
        exact J.sub [] rfl (wX7_overlap_b33 hX hW   hf)
      · have hf := ite_f h hf
        refine r_iload hX dX7_overlap_23 4 rfl ?_
        refine r_iconst hX dX7_overlap_25 (v := (0 : Int32)) (by decide) ?_
        refine r_iconst hX dX7_overlap_26 (v := (1 : Int32)) (by decide) ?_
        refine J.callz (fun H locs ls a b c => runS hX miX7_in (cX7_in_ok (xl X)  rfl) g3_148 g3_149 ⟨Nat.le_of_ble_eq_true rfl, Nat.le_of_ble_eq_true rfl⟩ dX7_overlap_27 rfl (As := [.int x4, .int (0 : Int32), .int (1 : Int32)]) (rest := []) rfl (Nat.le_of_ble_eq_true rfl) a b c) (fun hz4 => ?_)
        refine r_if_ne hX dX7_overlap_30 (tgt := 37) (by decide) (fun h => ?_) (fun h => ?_)
        · have hf := ite_f h hf
          refine r_aload_n hX dX7_overlap_37 rfl 0 rfl ?_
          refine r_iload_n hX dX7_overlap_38 rfl 3 rfl ?_
          obtain ⟨σ5, hr6, hf⟩ := bd_s hf
          refine J.callv (fun H locs ls a b c => runV hX miX7_goTo (As := [.int x3]) (cX7_goTo_ok (xl X) hW  hr6) g3_198 g3_200 gs_20 cls7 (MK0 hW) (by decide) (ce8 (MK0 hW)) ⟨Nat.le_of_ble_eq_true rfl, Nat.le_of_ble_eq_true rfl⟩ dX7_overlap_39 rfl (rest := []) rfl (Nat.le_of_ble_eq_true rfl) a b c) ?_
          refine r_aload_n hX dX7_overlap_42 rfl 0 rfl ?_
          refine r_iload_n hX dX7_overlap_43 rfl 1 rfl ?_
          refine r_iload_n hX dX7_overlap_44 rfl 2 rfl ?_
          refine r_iconst hX dX7_overlap_45 (v := (0 : Int32)) (by decide) ?_
          refine r_iconst hX dX7_overlap_46 (v := (1 : Int32)) (by decide) ?_
          obtain ⟨r7, hr8, hf⟩ := bd_s hf
          refine J.calll (fun H locs ls a b c => runV hX miX7_along (As := [.int x1, .int x2, .int (0 : Int32), .int (1 : Int32)]) (cX7_along_ok (xl X) hW  hr8) g4_5 g4_7 gs_26 cls7 (MK0 hW) (by decide) (ce8 (MK0 hW)) ⟨Nat.le_of_ble_eq_true rfl, Nat.le_of_ble_eq_true rfl⟩ dX7_overlap_47 rfl (rest := []) rfl (Nat.le_of_ble_eq_true rfl) a b c) ?_
          refine r_lstore hX (i := 5) dX7_overlap_50 (by decide) rfl ?_
          refine r_aload_n hX dX7_overlap_52 rfl 1 rfl ?_
          refine r_iload_n hX dX7_overlap_53 rfl 2 rfl ?_
          refine r_iload_n hX dX7_overlap_54 rfl 3 rfl ?_
          refine r_iconst hX dX7_overlap_55 (v := (2 : Int32)) (by decide) ?_
          refine r_iconst hX dX7_overlap_56 (v := (3 : Int32)) (by decide) ?_
          obtain ⟨r9, hr10, hf⟩ := bd_s hf
          refine J.calll (fun H locs ls a b c => runV hX miX7_along (As := [.int x1, .int x2, .int (2 : Int32), .int (3 : Int32)]) (cX7_along_ok (xl X) hW  hr10) g4_5 g4_7 gs_26 cls7 (MK0 hW) (by decide) (ce8 (MK0 hW)) ⟨Nat.le_of_ble_eq_true rfl, Nat.le_of_ble_eq_true rfl⟩ dX7_overlap_57 rfl (rest := []) rfl (Nat.le_of_ble_eq_true rfl) a b c) ?_
          refine r_lstore hX (i := 7) dX7_overlap_60 (by decide) rfl ?_
          refine r_aload_n hX dX7_overlap_62 rfl 2 rfl ?_
          refine r_get hX cls7 (MK0 hW) (by decide) (ce8 (MK0 hW)) 16 (by decide) g3_77 rfl dX7_overlap_63 (rf w 14) rfl ?_
          refine r_iload_n hX dX7_overlap_66 rfl 3 rfl ?_
          obtain ⟨hi12, hf⟩ := grd_some hf
          refine r_iald hX (MK14 hW) (ML14 hW) hi12 dX7_overlap_67 ?_
          refine r_aload_n hX dX7_overlap_68 rfl 2 rfl ?_
          refine r_get hX cls7 (MK0 hW) (by decide) (ce8 (MK0 hW)) 16 (by decide) g3_77 rfl dX7_overlap_69 (rf w 14) rfl ?_
          refine r_iload_n hX dX7_overlap_72 rfl 4 rfl ?_
          obtain ⟨hi11, hf⟩ := grd_some hf
          refine r_iald hX (MK14 hW) (ML14 hW) hi11 dX7_overlap_73 ?_
          refine r_imul hX dX7_overlap_74 ?_
          refine r_i2l hX dX7_overlap_75 ?_
          refine r_lstore hX (i := 9) dX7_overlap_76 (by decide) rfl ?_
          refine r_lload hX dX7_overlap_78 2 rfl ?_
          refine r_lconst hX dX7_overlap_80 (v := (0 : Int64)) (by decide) ?_
          refine r_lcmp_lt hX dX7_overlap_81 dX7_overlap_82 (tgt := 92) (by decide) (fun h => ?_) (fun h => ?_)
          · have hf := ite_t h hf
            exact J.sub [7, 0] rfl (wX7_overlap_b92 hX hW   hf)
          · have hf := ite_f h hf
            refine r_lload hX dX7_overlap_85 1 rfl ?_
            refine r_lconst hX dX7_overlap_87 (v := (0 : Int64)) (by decide) ?_
            refine r_lcmp_ge hX dX7_overlap_88 dX7_overlap_89 (tgt := 96) (by decide) (fun h => ?_) (fun h => ?_)
            · have hf := ite_t h hf
              refine r_lload hX dX7_overlap_96 2 rfl ?_
              refine r_lload hX dX7_overlap_98 1 rfl ?_
              refine r_lmul hX dX7_overlap_100 ?_
              refine r_aload_n hX dX7_overlap_101 rfl 3 rfl ?_
              refine r_get hX cls7 (MK0 hW) (by decide) (ce8 (MK0 hW)) 0 (by decide) g3_61 rfl dX7_overlap_102 (.int (σ5.1 0 0)) rfl ?_
              refine r_i2l hX dX7_overlap_105 ?_
              refine r_lmul hX dX7_overlap_106 ?_
              refine r_aload_n hX dX7_overlap_107 rfl 3 rfl ?_
              refine r_get hX cls7 (MK0 hW) (by decide) (ce8 (MK0 hW)) 0 (by decide) g3_61 rfl dX7_overlap_108 (.int (σ5.1 0 0)) rfl ?_
              refine r_i2l hX dX7_overlap_111 ?_
              refine r_lmul hX dX7_overlap_112 ?_
              exact J.sub [7, 0] rfl (wX7_overlap_b113 hX hW   hf)
            · have hf := ite_f h hf
              exact J.sub [7, 0] rfl (wX7_overlap_b92 hX hW   hf)
        · have hf := ite_t h hf
          exact J.sub [] rfl (wX7_overlap_b33 hX hW   hf)
theorem miX7_overlap : MI yX7_overlap cX7_overlap 13 (some .long) 4 := ⟨g4_4, ⟨by decide, by decide, by decide +kernel⟩, g1_6, by decide +kernel⟩
theorem cX7_overlap_ok (l : Launch) {w : Wp} {σ : St} {r : Int64} {σ' : St} {x1 : Int32} {x2 : Int32} {x3 : Int32} {x4 : Int32} (hW : MW w)  (hf : fX7_overlap σ x1 x2 x3 x4 = some (r, σ')) : CM l w yX7_overlap cX7_overlap 13 (some .long) (rmz 4 97) [rf w 0, .int x1, .int x2, .int x3, .int x4] σ (Ql w σ' r) := CM.of miX7_overlap.2.2.2 (Nat.le_of_ble_eq_true rfl) (fun X hcl hX => J.sub [0, 1, 2, 3, 4] rfl (wX7_overlap_b0 hX hW  hf))
-- X7_side
set_option maxRecDepth 20000 in
set_option maxHeartbeats 2000000 in
theorem wX7_side_b0 {X : Cx} {w : Wp} {σ : St} {r : Int32}  {x0 : Int64} {x2 : Int64} {x4 : Int64} {x6 : Int64} {x8 : Int64} {x10 : Int64} (hX : OK X w cX7_side 14 RX7 (some .int) (rmz 0 0) (Qi w σ r))    (hf : fX7_side x0 x2 x4 x6 x8 x10 = r) : J X w 14 σ 0 [(0, .long x0), (2, .long x2), (4, .long x4), (6, .long x6), (8, .long x8), (10, .long x10)] [] := by
  rw [fX7_side] at hf
  refine r_lload hX dX7_side_0 2 rfl ?_
  refine r_lload_n hX dX7_side_2 rfl 0 rfl ?_
  refine r_lsub hX dX7_side_3 ?_
  refine r_lload hX dX7_side_4 5 rfl ?_
  refine r_lload_n hX dX7_side_6 rfl 1 rfl ?_
  refine r_lsub hX dX7_side_7 ?_
  refine r_lmul hX dX7_side_8 ?_
  refine r_lload hX dX7_side_9 3 rfl ?_
  refine r_lload_n hX dX7_side_11 rfl 1 rfl ?_
  refine r_lsub hX dX7_side_12 ?_
  refine r_lload hX dX7_side_13 4 rfl ?_
  refine r_lload_n hX dX7_side_15 rfl 0 rfl ?_
  refine r_lsub hX dX7_side_16 ?_
  refine r_lmul hX dX7_side_17 ?_
  refine r_lsub hX dX7_side_18 ?_
  refine r_lstore hX (i := 12) dX7_side_19 (by decide) rfl ?_
  refine r_lload hX dX7_side_21 0 rfl ?_
  refine r_lconst hX dX7_side_23 (v := (0 : Int64)) (by decide) ?_
  refine r_lcmp_le hX dX7_side_24 dX7_side_25 (tgt := 32) (by decide) (fun h => ?_) (fun h => ?_)
  · have hf := ite_t h hf
    refine r_lload hX dX7_side_32 0 rfl ?_
    refine r_lconst hX dX7_side_34 (v := (0 : Int64)) (by decide) ?_
    refine r_lcmp_ge hX dX7_side_35 dX7_side_36 (tgt := 43) (by decide) (fun h => ?_) (fun h => ?_)
    · have hf := ite_t h hf
      refine r_iconst hX dX7_side_43 (v := (0 : Int32)) (by decide) ?_
      subst hf
      exact r_iret hX dX7_side_44
    · have hf := ite_f h hf
      refine r_iconst hX dX7_side_39 (v := (-1 : Int32)) (by decide) ?_
      refine r_goto hX dX7_side_40 (tgt := 44) (by decide) ?_
      subst hf
      exact r_iret hX dX7_side_44
  · have hf := ite_f h hf
    refine r_iconst hX dX7_side_28 (v := (1 : Int32)) (by decide) ?_
    refine r_goto hX dX7_side_29 (tgt := 44) (by decide) ?_
    subst hf
    exact r_iret hX dX7_side_44
theorem miX7_side : MI yX7_side cX7_side 14 (some .int) 6 := ⟨g4_41, ⟨by decide, by decide, by decide +kernel⟩, g1_6, by decide +kernel⟩
theorem cX7_side_ok (l : Launch) {w : Wp} {σ : St} {r : Int32} {x0 : Int64} {x2 : Int64} {x4 : Int64} {x6 : Int64} {x8 : Int64} {x10 : Int64}   (hf : fX7_side x0 x2 x4 x6 x8 x10 = r) : CM l w yX7_side cX7_side 14 (some .int) (rmz 0 0) [.long x0, .long x2, .long x4, .long x6, .long x8, .long x10] σ (Qi w σ r) := CM.of miX7_side.2.2.2 (Nat.le_of_ble_eq_true rfl) (fun X hcl hX => J.sub [0, 1, 2, 3, 4, 5] rfl (wX7_side_b0 hX   hf))
-- X7_isBetween
set_option maxRecDepth 20000 in
set_option maxHeartbeats 2000000 in
theorem wX7_isBetween_b0 {X : Cx} {w : Wp} {σ : St} {r : Int32}  {x0 : Int64} {x2 : Int64} {x4 : Int64} (hX : OK X w cX7_isBetween 6 RX7 (some .boolean) (rmz 1 23) (Qz w σ r))    (hf : fX7_isBetween x0 x2 x4 = r) : J X w 6 σ 0 [(0, .long x0), (2, .long x2), (4, .long x4)] [] := by
  rw [fX7_isBetween] at hf
  refine r_lload hX dX7_isBetween_0 2 rfl ?_
  refine r_lload_n hX dX7_isBetween_2 rfl 0 rfl ?_
  refine r_lload_n hX dX7_isBetween_3 rfl 1 rfl ?_
  refine J.calll (fun H locs ls a b c => runS hX miX7_least (cX7_least_ok (xl X)  rfl) g4_9 g4_10 ⟨Nat.le_of_ble_eq_true rfl, Nat.le_of_ble_eq_true rfl⟩ dX7_isBetween_4 rfl (As := [.long x0, .long x2]) (rest := [.long x4]) rfl (Nat.le_of_ble_eq_true rfl) a b c) ?_
  refine r_lcmp_lt hX dX7_isBetween_7 dX7_isBetween_8 (tgt := 26) (by decide) (fun h => ?_) (fun h => ?_)
  · have hf := ite_t h hf
    refine r_iconst hX dX7_isBetween_26 (v := (0 : Int32)) (by decide) ?_
    subst hf
    exact r_zret hX bz0 dX7_isBetween_27
  · have hf := ite_f h hf
    refine r_lload hX dX7_isBetween_11 2 rfl ?_
    refine r_lload_n hX dX7_isBetween_13 rfl 0 rfl ?_
    refine r_lload_n hX dX7_isBetween_14 rfl 1 rfl ?_
    refine J.calll (fun H locs ls a b c => runS hX miX7_most (cX7_most_ok (xl X)  rfl) g3_232 g3_233 ⟨Nat.le_of_ble_eq_true rfl, Nat.le_of_ble_eq_true rfl⟩ dX7_isBetween_15 rfl (As := [.long x0, .long x2]) (rest := [.long x4]) rfl (Nat.le_of_ble_eq_true rfl) a b c) ?_
    refine r_lcmp_gt hX dX7_isBetween_18 dX7_isBetween_19 (tgt := 26) (by decide) (fun h => ?_) (fun h => ?_)
    · have hf := ite_t h hf
      refine r_iconst hX dX7_isBetween_26 (v := (0 : Int32)) (by decide) ?_
      subst hf
      exact r_zret hX bz0 dX7_isBetween_27
    · have hf := ite_f h hf
      refine r_iconst hX dX7_isBetween_22 (v := (1 : Int32)) (by decide) ?_
      refine r_goto hX dX7_isBetween_23 (tgt := 27) (by decide) ?_
      subst hf
      exact r_zret hX bz1 dX7_isBetween_27
theorem miX7_isBetween : MI yX7_isBetween cX7_isBetween 6 (some .boolean) 3 := ⟨g4_44, ⟨by decide, by decide, by decide +kernel⟩, g1_6, by decide +kernel⟩
theorem cX7_isBetween_ok (l : Launch) {w : Wp} {σ : St} {r : Int32} {x0 : Int64} {x2 : Int64} {x4 : Int64}   (hf : fX7_isBetween x0 x2 x4 = r) : CM l w yX7_isBetween cX7_isBetween 6 (some .boolean) (rmz 1 23) [.long x0, .long x2, .long x4] σ (Qz w σ r) := CM.of miX7_isBetween.2.2.2 (Nat.le_of_ble_eq_true rfl) (fun X hcl hX => J.sub [0, 1, 2] rfl (wX7_isBetween_b0 hX   hf))
-- X7_isOn
set_option maxRecDepth 20000 in
set_option maxHeartbeats 2000000 in
theorem wX7_isOn_b0 {X : Cx} {w : Wp} {σ : St} {r : Int32}  {x0 : Int64} {x2 : Int64} {x4 : Int64} {x6 : Int64} {x8 : Int64} {x10 : Int64} (hX : OK X w cX7_isOn 12 RX7 (some .boolean) (rmz 2 48) (Qz w σ r))    (hf : fX7_isOn x0 x2 x4 x6 x8 x10 = r) : J X w 12 σ 0 [(0, .long x0), (2, .long x2), (4, .long x4), (6, .long x6), (8, .long x8), (10, .long x10)] [] := by
  rw [fX7_isOn] at hf
  refine r_lload_n hX dX7_isOn_0 rfl 0 rfl ?_
  refine r_lload_n hX dX7_isOn_1 rfl 1 rfl ?_
  refine r_lload hX dX7_isOn_2 2 rfl ?_
  refine r_lload hX dX7_isOn_4 3 rfl ?_
  refine r_lload hX dX7_isOn_6 4 rfl ?_
  refine r_lload hX dX7_isOn_8 5 rfl ?_
  refine J.calli (fun H locs ls a b c => runS hX miX7_side (cX7_side_ok (xl X)  rfl) g4_39 g4_40 ⟨Nat.le_of_ble_eq_true rfl, Nat.le_of_ble_eq_true rfl⟩ dX7_isOn_10 rfl (As := [.long x0, .long x2, .long x4, .long x6, .long x8, .long x10]) (rest := []) rfl (Nat.le_of_ble_eq_true rfl) a b c) ?_
  refine r_if_ne hX dX7_isOn_13 (tgt := 42) (by decide) (fun h => ?_) (fun h => ?_)
  · have hf := ite_f h hf
    refine r_iconst hX dX7_isOn_42 (v := (0 : Int32)) (by decide) ?_
    subst hf
    exact r_zret hX bz0 dX7_isOn_43
  · have hf := ite_t h hf
    refine r_lload_n hX dX7_isOn_16 rfl 0 rfl ?_
    refine r_lload hX dX7_isOn_17 2 rfl ?_
    refine r_lload hX dX7_isOn_19 4 rfl ?_
    refine J.callz (fun H locs ls a b c => runS hX miX7_isBetween (cX7_isBetween_ok (xl X)  rfl) g4_42 g4_43 ⟨Nat.le_of_ble_eq_true rfl, Nat.le_of_ble_eq_true rfl⟩ dX7_isOn_21 rfl (As := [.long x0, .long x4, .long x8]) (rest := []) rfl (Nat.le_of_ble_eq_true rfl) a b c) (fun hz1 => ?_)
    refine r_if_eq hX dX7_isOn_24 (tgt := 42) (by decide) (fun h => ?_) (fun h => ?_)
    · have hf := ite_t h hf
      refine r_iconst hX dX7_isOn_42 (v := (0 : Int32)) (by decide) ?_
      subst hf
      exact r_zret hX bz0 dX7_isOn_43
    · have hf := ite_f h hf
      refine r_lload_n hX dX7_isOn_27 rfl 1 rfl ?_
      refine r_lload hX dX7_isOn_28 3 rfl ?_
      refine r_lload hX dX7_isOn_30 5 rfl ?_
      refine J.callz (fun H locs ls a b c => runS hX miX7_isBetween (cX7_isBetween_ok (xl X)  rfl) g4_42 g4_43 ⟨Nat.le_of_ble_eq_true rfl, Nat.le_of_ble_eq_true rfl⟩ dX7_isOn_32 rfl (As := [.long x2, .long x6, .long x10]) (rest := []) rfl (Nat.le_of_ble_eq_true rfl) a b c) (fun hz2 => ?_)
      refine r_if_eq hX dX7_isOn_35 (tgt := 42) (by decide) (fun h => ?_) (fun h => ?_)
      · have hf := ite_t h hf
        refine r_iconst hX dX7_isOn_42 (v := (0 : Int32)) (by decide) ?_
        subst hf
        exact r_zret hX bz0 dX7_isOn_43
      · have hf := ite_f h hf
        refine r_iconst hX dX7_isOn_38 (v := (1 : Int32)) (by decide) ?_
        refine r_goto hX dX7_isOn_39 (tgt := 43) (by decide) ?_
        subst hf
        exact r_zret hX bz1 dX7_isOn_43
theorem miX7_isOn : MI yX7_isOn cX7_isOn 12 (some .boolean) 6 := ⟨g4_38, ⟨by decide, by decide, by decide +kernel⟩, g1_6, by decide +kernel⟩
theorem cX7_isOn_ok (l : Launch) {w : Wp} {σ : St} {r : Int32} {x0 : Int64} {x2 : Int64} {x4 : Int64} {x6 : Int64} {x8 : Int64} {x10 : Int64}   (hf : fX7_isOn x0 x2 x4 x6 x8 x10 = r) : CM l w yX7_isOn cX7_isOn 12 (some .boolean) (rmz 2 48) [.long x0, .long x2, .long x4, .long x6, .long x8, .long x10] σ (Qz w σ r) := CM.of miX7_isOn.2.2.2 (Nat.le_of_ble_eq_true rfl) (fun X hcl hX => J.sub [0, 1, 2, 3, 4, 5] rfl (wX7_isOn_b0 hX   hf))
-- X7_layEnds
set_option maxRecDepth 20000 in
set_option maxHeartbeats 2000000 in
theorem wX7_layEnds_b80 {X : Cx} {w : Wp} {σ : St} {σ' : St}  {x1 : Int32} {x4 : Int64} {x7 : Int32} (hX : OK X w cX7_layEnds 8 RX7 none (rmz 0 0) (Qv w σ')) (hW : MW w)   (hf : fX7_layEnds_b80 σ x1 x4 x7 = some σ') : J X w 8 σ 80 [(0, rf w 0), (1, .int x1), (4, .long x4), (7, .int x7)] [] := by
  rw [fX7_layEnds_b80] at hf
  refine r_aload_n hX dX7_layEnds_80 rfl 0 rfl ?_
  refine r_get hX cls7 (MK0 hW) (by decide) (ce8 (MK0 hW)) 22 (by decide) g3_83 rfl dX7_layEnds_81 (rf w 20) rfl ?_
  refine r_iload_n hX dX7_layEnds_84 rfl 1 rfl ?_
  refine r_iconst hX dX7_layEnds_85 (v := (1 : Int32)) (by decide) ?_
  refine r_iadd hX dX7_layEnds_86 ?_
  refine r_aload_n hX dX7_layEnds_87 rfl 0 rfl ?_
  refine r_get hX cls7 (MK0 hW) (by decide) (ce8 (MK0 hW)) 19 (by decide) g3_80 rfl dX7_layEnds_88 (rf w 17) rfl ?_
  refine r_iload hX dX7_layEnds_91 3 rfl ?_
  obtain ⟨hi2, hf⟩ := grd_some hf
  refine r_lald hX (MK17 hW) (ML17 hW) hi2 dX7_layEnds_93 ?_
  refine r_lload hX dX7_layEnds_94 2 rfl ?_
  refine r_lmul hX dX7_layEnds_96 ?_
  obtain ⟨hi1, hf⟩ := grd_some hf
  refine r_last hX (MK20 hW) (ML20 hW) hi1 dX7_layEnds_97 ?_
  cases hf
  exact r_vret hX dX7_layEnds_98
set_option maxRecDepth 20000 in
set_option maxHeartbeats 2000000 in
theorem wX7_layEnds_b62 {X : Cx} {w : Wp} {σ : St} {σ' : St}  {x1 : Int32} {x4 : Int64} {x7 : Int32} (hX : OK X w cX7_layEnds 8 RX7 none (rmz 0 0) (Qv w σ')) (hW : MW w)   (hf : fX7_layEnds_b62 σ x1 x4 x7 = some σ') : J X w 8 σ 62 [(0, rf w 0), (1, .int x1), (4, .long x4), (7, .int x7)] [] := by
  rw [fX7_layEnds_b62] at hf
  refine r_aload_n hX dX7_layEnds_62 rfl 0 rfl ?_
  refine r_get hX cls7 (MK0 hW) (by decide) (ce8 (MK0 hW)) 21 (by decide) g3_82 rfl dX7_layEnds_63 (rf w 19) rfl ?_
  refine r_iload_n hX dX7_layEnds_66 rfl 1 rfl ?_
  refine r_iconst hX dX7_layEnds_67 (v := (1 : Int32)) (by decide) ?_
  refine r_iadd hX dX7_layEnds_68 ?_
  refine r_aload_n hX dX7_layEnds_69 rfl 0 rfl ?_
  refine r_get hX cls7 (MK0 hW) (by decide) (ce8 (MK0 hW)) 18 (by decide) g3_79 rfl dX7_layEnds_70 (rf w 16) rfl ?_
  refine r_iload hX dX7_layEnds_73 3 rfl ?_
  obtain ⟨hi2, hf⟩ := grd_some hf
  refine r_lald hX (MK16 hW) (ML16 hW) hi2 dX7_layEnds_75 ?_
  refine r_lload hX dX7_layEnds_76 2 rfl ?_
  refine r_lmul hX dX7_layEnds_78 ?_
  obtain ⟨hi1, hf⟩ := grd_some hf
  refine r_last hX (MK19 hW) (ML19 hW) hi1 dX7_layEnds_79 ?_
  exact J.sub [0, 1, 2, 3] rfl (wX7_layEnds_b80 hX hW   hf)
set_option maxRecDepth 20000 in
set_option maxHeartbeats 2000000 in
theorem wX7_layEnds_b46 {X : Cx} {w : Wp} {σ : St} {σ' : St}  {x1 : Int32} {x4 : Int64} {x6 : Int32} {x7 : Int32} (hX : OK X w cX7_layEnds 8 RX7 none (rmz 0 0) (Qv w σ')) (hW : MW w)   (hf : fX7_layEnds_b46 σ x1 x4 x6 x7 = some σ') : J X w 8 σ 46 [(0, rf w 0), (1, .int x1), (4, .long x4), (6, .int x6), (7, .int x7)] [] := by
  rw [fX7_layEnds_b46] at hf
  refine r_aload_n hX dX7_layEnds_46 rfl 0 rfl ?_
  refine r_get hX cls7 (MK0 hW) (by decide) (ce8 (MK0 hW)) 22 (by decide) g3_83 rfl dX7_layEnds_47 (rf w 20) rfl ?_
  refine r_iload_n hX dX7_layEnds_50 rfl 1 rfl ?_
  refine r_aload_n hX dX7_layEnds_51 rfl 0 rfl ?_
  refine r_get hX cls7 (MK0 hW) (by decide) (ce8 (MK0 hW)) 19 (by decide) g3_80 rfl dX7_layEnds_52 (rf w 17) rfl ?_
  refine r_iload hX dX7_layEnds_55 3 rfl ?_
  obtain ⟨hi2, hf⟩ := grd_some hf
  refine r_lald hX (MK17 hW) (ML17 hW) hi2 dX7_layEnds_57 ?_
  refine r_lload hX dX7_layEnds_58 2 rfl ?_
  refine r_lmul hX dX7_layEnds_60 ?_
  obtain ⟨hi1, hf⟩ := grd_some hf
  refine r_last hX (MK20 hW) (ML20 hW) hi1 dX7_layEnds_61 ?_
  exact J.sub [0, 1, 2, 4] rfl (wX7_layEnds_b62 hX hW   hf)
set_option maxRecDepth 20000 in
set_option maxHeartbeats 2000000 in
theorem wX7_layEnds_b0 {X : Cx} {w : Wp} {σ : St} {σ' : St}  {x1 : Int32} {x2 : Int32} {x3 : Int32} {x4 : Int64} (hX : OK X w cX7_layEnds 8 RX7 none (rmz 0 0) (Qv w σ')) (hW : MW w)   (hf : fX7_layEnds σ x1 x2 x3 x4 = some σ') : J X w 8 σ 0 [(0, rf w 0), (1, .int x1), (2, .int x2), (3, .int x3), (4, .long x4)] [] := by
  rw [fX7_layEnds] at hf
  refine r_bipush hX dX7_layEnds_0 (v := (9 : Int32)) (by decide) ?_
  refine r_iload_n hX dX7_layEnds_2 rfl 2 rfl ?_
  refine r_imul hX dX7_layEnds_3 ?_
  refine r_aload_n hX dX7_layEnds_4 rfl 0 rfl ?_
  refine r_get hX cls7 (MK0 hW) (by decide) (ce8 (MK0 hW)) 6 (by decide) g3_67 rfl dX7_layEnds_5 (rf w 5) rfl ?_
  refine r_bipush hX dX7_layEnds_8 (v := (8 : Int32)) (by decide) ?_
  refine r_iload_n hX dX7_layEnds_10 rfl 2 rfl ?_
  refine r_imul hX dX7_layEnds_11 ?_
  refine r_iload_n hX dX7_layEnds_12 rfl 3 rfl ?_
  refine r_iadd hX dX7_layEnds_13 ?_
  obtain ⟨hi3, hf⟩ := grd_some hf
  refine r_iald hX (MK5 hW) (ML5 hW) hi3 dX7_layEnds_14 ?_
  refine r_iadd hX dX7_layEnds_15 ?_
  refine r_iconst hX dX7_layEnds_16 (v := (1 : Int32)) (by decide) ?_
  refine r_iadd hX dX7_layEnds_17 ?_
  refine r_istore hX (i := 6) dX7_layEnds_18 (by decide) rfl ?_
  refine r_bipush hX dX7_layEnds_20 (v := (9 : Int32)) (by decide) ?_
  refine r_iload_n hX dX7_layEnds_22 rfl 3 rfl ?_
  refine r_imul hX dX7_layEnds_23 ?_
  refine r_iload_n hX dX7_layEnds_24 rfl 4 rfl ?_
  refine r_iadd hX dX7_layEnds_25 ?_
  refine r_iconst hX dX7_layEnds_26 (v := (1 : Int32)) (by decide) ?_
  refine r_iadd hX dX7_layEnds_27 ?_
  refine r_istore hX (i := 7) dX7_layEnds_28 (by decide) rfl ?_
  refine r_aload_n hX dX7_layEnds_30 rfl 2 rfl ?_
  refine r_get hX cls7 (MK0 hW) (by decide) (ce8 (MK0 hW)) 21 (by decide) g3_82 rfl dX7_layEnds_31 (rf w 19) rfl ?_
  refine r_iload_n hX dX7_layEnds_34 rfl 3 rfl ?_
  refine r_aload_n hX dX7_layEnds_35 rfl 2 rfl ?_
  refine r_get hX cls7 (MK0 hW) (by decide) (ce8 (MK0 hW)) 18 (by decide) g3_79 rfl dX7_layEnds_36 (rf w 16) rfl ?_
  refine r_iload hX dX7_layEnds_39 1 rfl ?_
  obtain ⟨hi2, hf⟩ := grd_some hf
  refine r_lald hX (MK16 hW) (ML16 hW) hi2 dX7_layEnds_41 ?_
  refine r_lload hX dX7_layEnds_42 6 rfl ?_
  refine r_lmul hX dX7_layEnds_44 ?_
  obtain ⟨hi1, hf⟩ := grd_some hf
  refine r_last hX (MK19 hW) (ML19 hW) hi1 dX7_layEnds_45 ?_
  exact J.sub [2, 3, 6, 1, 0] rfl (wX7_layEnds_b46 hX hW   hf)
theorem miX7_layEnds : MI yX7_layEnds cX7_layEnds 8 none 4 := ⟨g4_27, ⟨by decide, by decide, by decide +kernel⟩, g1_6, by decide +kernel⟩
theorem cX7_layEnds_ok (l : Launch) {w : Wp} {σ : St} {σ' : St} {x1 : Int32} {x2 : Int32} {x3 : Int32} {x4 : Int64} (hW : MW w)  (hf : fX7_layEnds σ x1 x2 x3 x4 = some σ') : CM l w yX7_layEnds cX7_layEnds 8 none (rmz 0 0) [rf w 0, .int x1, .int x2, .int x3, .long x4] σ (Qv w σ') := CM.of miX7_layEnds.2.2.2 (Nat.le_of_ble_eq_true rfl) (fun X hcl hX => J.sub [0, 1, 2, 3, 4] rfl (wX7_layEnds_b0 hX hW  hf))
-- X7_sideOf
set_option maxRecDepth 20000 in
set_option maxHeartbeats 2000000 in
theorem wX7_sideOf_b0 {X : Cx} {w : Wp} {σ : St} {r : Int32}  {x1 : Int32} {x2 : Int32} (hX : OK X w cX7_sideOf 3 RX7 (some .int) (rmz 1 33) (Qi w σ r)) (hW : MW w)   (hf : fX7_sideOf σ x1 x2 = some r) : J X w 3 σ 0 [(0, rf w 0), (1, .int x1), (2, .int x2)] [] := by
  rw [fX7_sideOf] at hf
  refine r_aload_n hX dX7_sideOf_0 rfl 0 rfl ?_
  refine r_get hX cls7 (MK0 hW) (by decide) (ce8 (MK0 hW)) 21 (by decide) g3_82 rfl dX7_sideOf_1 (rf w 19) rfl ?_
  refine r_iload_n hX dX7_sideOf_4 rfl 1 rfl ?_
  obtain ⟨hi6, hf⟩ := grd_some hf
  refine r_lald hX (MK19 hW) (ML19 hW) hi6 dX7_sideOf_5 ?_
  refine r_aload_n hX dX7_sideOf_6 rfl 0 rfl ?_
  refine r_get hX cls7 (MK0 hW) (by decide) (ce8 (MK0 hW)) 22 (by decide) g3_83 rfl dX7_sideOf_7 (rf w 20) rfl ?_
  refine r_iload_n hX dX7_sideOf_10 rfl 1 rfl ?_
  obtain ⟨hi5, hf⟩ := grd_some hf
  refine r_lald hX (MK20 hW) (ML20 hW) hi5 dX7_sideOf_11 ?_
  refine r_aload_n hX dX7_sideOf_12 rfl 0 rfl ?_
  refine r_get hX cls7 (MK0 hW) (by decide) (ce8 (MK0 hW)) 21 (by decide) g3_82 rfl dX7_sideOf_13 (rf w 19) rfl ?_
  refine r_iload_n hX dX7_sideOf_16 rfl 1 rfl ?_
  refine r_iconst hX dX7_sideOf_17 (v := (1 : Int32)) (by decide) ?_
  refine r_iadd hX dX7_sideOf_18 ?_
  obtain ⟨hi4, hf⟩ := grd_some hf
  refine r_lald hX (MK19 hW) (ML19 hW) hi4 dX7_sideOf_19 ?_
  refine r_aload_n hX dX7_sideOf_20 rfl 0 rfl ?_
  refine r_get hX cls7 (MK0 hW) (by decide) (ce8 (MK0 hW)) 22 (by decide) g3_83 rfl dX7_sideOf_21 (rf w 20) rfl ?_
  refine r_iload_n hX dX7_sideOf_24 rfl 1 rfl ?_
  refine r_iconst hX dX7_sideOf_25 (v := (1 : Int32)) (by decide) ?_
  refine r_iadd hX dX7_sideOf_26 ?_
  obtain ⟨hi3, hf⟩ := grd_some hf
  refine r_lald hX (MK20 hW) (ML20 hW) hi3 dX7_sideOf_27 ?_
  refine r_aload_n hX dX7_sideOf_28 rfl 0 rfl ?_
  refine r_get hX cls7 (MK0 hW) (by decide) (ce8 (MK0 hW)) 21 (by decide) g3_82 rfl dX7_sideOf_29 (rf w 19) rfl ?_
  refine r_iload_n hX dX7_sideOf_32 rfl 2 rfl ?_
  obtain ⟨hi2, hf⟩ := grd_some hf
  refine r_lald hX (MK19 hW) (ML19 hW) hi2 dX7_sideOf_33 ?_
  refine r_aload_n hX dX7_sideOf_34 rfl 0 rfl ?_
  refine r_get hX cls7 (MK0 hW) (by decide) (ce8 (MK0 hW)) 22 (by decide) g3_83 rfl dX7_sideOf_35 (rf w 20) rfl ?_
  refine r_iload_n hX dX7_sideOf_38 rfl 2 rfl ?_
  obtain ⟨hi1, hf⟩ := grd_some hf
  refine r_lald hX (MK20 hW) (ML20 hW) hi1 dX7_sideOf_39 ?_
  refine J.calli (fun H locs ls a b c => runS hX miX7_side (cX7_side_ok (xl X)  rfl) g4_39 g4_40 ⟨Nat.le_of_ble_eq_true rfl, Nat.le_of_ble_eq_true rfl⟩ dX7_sideOf_40 rfl (As := [.long (σ.2.1 19 (ix x1)), .long (σ.2.1 20 (ix x1)), .long (σ.2.1 19 (ix (x1 + (1 : Int32)))), .long (σ.2.1 20 (ix (x1 + (1 : Int32)))), .long (σ.2.1 19 (ix x2)), .long (σ.2.1 20 (ix x2))]) (rest := []) rfl (Nat.le_of_ble_eq_true rfl) a b c) ?_
  cases hf
  exact r_iret hX dX7_sideOf_43
theorem miX7_sideOf : MI yX7_sideOf cX7_sideOf 3 (some .int) 2 := ⟨g4_48, ⟨by decide, by decide, by decide +kernel⟩, g1_6, by decide +kernel⟩
theorem cX7_sideOf_ok (l : Launch) {w : Wp} {σ : St} {r : Int32} {x1 : Int32} {x2 : Int32} (hW : MW w)  (hf : fX7_sideOf σ x1 x2 = some r) : CM l w yX7_sideOf cX7_sideOf 3 (some .int) (rmz 1 33) [rf w 0, .int x1, .int x2] σ (Qi w σ r) := CM.of miX7_sideOf.2.2.2 (Nat.le_of_ble_eq_true rfl) (fun X hcl hX => J.sub [0, 1, 2] rfl (wX7_sideOf_b0 hX hW  hf))
-- X7_isOnSegment
set_option maxRecDepth 20000 in
set_option maxHeartbeats 2000000 in
theorem wX7_isOnSegment_b0 {X : Cx} {w : Wp} {σ : St} {r : Int32}  {x1 : Int32} {x2 : Int32} (hX : OK X w cX7_isOnSegment 3 RX7 (some .boolean) (rmz 3 79) (Qz w σ r)) (hW : MW w)   (hf : fX7_isOnSegment σ x1 x2 = some r) : J X w 3 σ 0 [(0, rf w 0), (1, .int x1), (2, .int x2)] [] := by
  rw [fX7_isOnSegment] at hf
  refine r_aload_n hX dX7_isOnSegment_0 rfl 0 rfl ?_
  refine r_get hX cls7 (MK0 hW) (by decide) (ce8 (MK0 hW)) 21 (by decide) g3_82 rfl dX7_isOnSegment_1 (rf w 19) rfl ?_
  refine r_iload_n hX dX7_isOnSegment_4 rfl 1 rfl ?_
  obtain ⟨hi7, hf⟩ := grd_some hf
  refine r_lald hX (MK19 hW) (ML19 hW) hi7 dX7_isOnSegment_5 ?_
  refine r_aload_n hX dX7_isOnSegment_6 rfl 0 rfl ?_
  refine r_get hX cls7 (MK0 hW) (by decide) (ce8 (MK0 hW)) 22 (by decide) g3_83 rfl dX7_isOnSegment_7 (rf w 20) rfl ?_
  refine r_iload_n hX dX7_isOnSegment_10 rfl 1 rfl ?_
  obtain ⟨hi6, hf⟩ := grd_some hf
  refine r_lald hX (MK20 hW) (ML20 hW) hi6 dX7_isOnSegment_11 ?_
  refine r_aload_n hX dX7_isOnSegment_12 rfl 0 rfl ?_
  refine r_get hX cls7 (MK0 hW) (by decide) (ce8 (MK0 hW)) 21 (by decide) g3_82 rfl dX7_isOnSegment_13 (rf w 19) rfl ?_
  refine r_iload_n hX dX7_isOnSegment_16 rfl 1 rfl ?_
  refine r_iconst hX dX7_isOnSegment_17 (v := (1 : Int32)) (by decide) ?_
  refine r_iadd hX dX7_isOnSegment_18 ?_
  obtain ⟨hi5, hf⟩ := grd_some hf
  refine r_lald hX (MK19 hW) (ML19 hW) hi5 dX7_isOnSegment_19 ?_
  refine r_aload_n hX dX7_isOnSegment_20 rfl 0 rfl ?_
  refine r_get hX cls7 (MK0 hW) (by decide) (ce8 (MK0 hW)) 22 (by decide) g3_83 rfl dX7_isOnSegment_21 (rf w 20) rfl ?_
  refine r_iload_n hX dX7_isOnSegment_24 rfl 1 rfl ?_
  refine r_iconst hX dX7_isOnSegment_25 (v := (1 : Int32)) (by decide) ?_
  refine r_iadd hX dX7_isOnSegment_26 ?_
  obtain ⟨hi4, hf⟩ := grd_some hf
  refine r_lald hX (MK20 hW) (ML20 hW) hi4 dX7_isOnSegment_27 ?_
  refine r_aload_n hX dX7_isOnSegment_28 rfl 0 rfl ?_
  refine r_get hX cls7 (MK0 hW) (by decide) (ce8 (MK0 hW)) 21 (by decide) g3_82 rfl dX7_isOnSegment_29 (rf w 19) rfl ?_
  refine r_iload_n hX dX7_isOnSegment_32 rfl 2 rfl ?_
  obtain ⟨hi3, hf⟩ := grd_some hf
  refine r_lald hX (MK19 hW) (ML19 hW) hi3 dX7_isOnSegment_33 ?_
  refine r_aload_n hX dX7_isOnSegment_34 rfl 0 rfl ?_
  refine r_get hX cls7 (MK0 hW) (by decide) (ce8 (MK0 hW)) 22 (by decide) g3_83 rfl dX7_isOnSegment_35 (rf w 20) rfl ?_
  refine r_iload_n hX dX7_isOnSegment_38 rfl 2 rfl ?_
  obtain ⟨hi2, hf⟩ := grd_some hf
  refine r_lald hX (MK20 hW) (ML20 hW) hi2 dX7_isOnSegment_39 ?_
  refine J.callz (fun H locs ls a b c => runS hX miX7_isOn (cX7_isOn_ok (xl X)  rfl) g4_36 g4_37 ⟨Nat.le_of_ble_eq_true rfl, Nat.le_of_ble_eq_true rfl⟩ dX7_isOnSegment_40 rfl (As := [.long (σ.2.1 19 (ix x1)), .long (σ.2.1 20 (ix x1)), .long (σ.2.1 19 (ix (x1 + (1 : Int32)))), .long (σ.2.1 20 (ix (x1 + (1 : Int32)))), .long (σ.2.1 19 (ix x2)), .long (σ.2.1 20 (ix x2))]) (rest := []) rfl (Nat.le_of_ble_eq_true rfl) a b c) (fun hz1 => ?_)
  cases hf
  exact r_zret hX hz1 dX7_isOnSegment_43
theorem miX7_isOnSegment : MI yX7_isOnSegment cX7_isOnSegment 3 (some .boolean) 2 := ⟨g4_35, ⟨by decide, by decide, by decide +kernel⟩, g1_6, by decide +kernel⟩
theorem cX7_isOnSegment_ok (l : Launch) {w : Wp} {σ : St} {r : Int32} {x1 : Int32} {x2 : Int32} (hW : MW w)  (hf : fX7_isOnSegment σ x1 x2 = some r) : CM l w yX7_isOnSegment cX7_isOnSegment 3 (some .boolean) (rmz 3 79) [rf w 0, .int x1, .int x2] σ (Qz w σ r) := CM.of miX7_isOnSegment.2.2.2 (Nat.le_of_ble_eq_true rfl) (fun X hcl hX => J.sub [0, 1, 2] rfl (wX7_isOnSegment_b0 hX hW  hf))
-- X7_doMeet
set_option maxRecDepth 20000 in
set_option maxHeartbeats 2000000 in
theorem wX7_doMeet_b41 {X : Cx} {w : Wp} {σ : St} {r : Int32}  {xs0 : Int32} (hX : OK X w cX7_doMeet 2 RX7 (some .boolean) (rmz 4 101) (Qz w σ r)) (hW : MW w)   (hf : fX7_doMeet_b41 σ xs0 = some r) : J X w 2 σ 41 [(0, rf w 0)] [.int xs0] := by
  rw [fX7_doMeet_b41] at hf
  refine r_istore_n hX (i := 1) dX7_doMeet_41 rfl (by decide) rfl ?_
  refine r_iload_n hX dX7_doMeet_42 rfl 0 rfl ?_
  refine r_if_ne hX dX7_doMeet_43 (tgt := 78) (by decide) (fun h => ?_) (fun h => ?_)
  · have hf := ite_f h hf
    refine r_iconst hX dX7_doMeet_78 (v := (1 : Int32)) (by decide) ?_
    refine r_goto hX dX7_doMeet_79 (tgt := 83) (by decide) ?_
    cases hf
    exact r_zret hX bz1 dX7_doMeet_83
  · have hf := ite_t h hf
    refine r_aload_n hX dX7_doMeet_46 rfl 1 rfl ?_
    refine r_iconst hX dX7_doMeet_47 (v := (0 : Int32)) (by decide) ?_
    refine r_iconst hX dX7_doMeet_48 (v := (2 : Int32)) (by decide) ?_
    obtain ⟨r1, hr2, hf⟩ := bd_s hf
    refine J.calli (fun H locs ls a b c => runV hX miX7_sideOf (As := [.int (0 : Int32), .int (2 : Int32)]) (cX7_sideOf_ok (xl X) hW  hr2) g4_45 g4_47 gs_32 cls7 (MK0 hW) (by decide) (ce8 (MK0 hW)) ⟨Nat.le_of_ble_eq_true rfl, Nat.le_of_ble_eq_true rfl⟩ dX7_doMeet_49 rfl (rest := []) rfl (Nat.le_of_ble_eq_true rfl) a b c) ?_
    refine r_aload_n hX dX7_doMeet_52 rfl 1 rfl ?_
    refine r_iconst hX dX7_doMeet_53 (v := (0 : Int32)) (by decide) ?_
    refine r_iconst hX dX7_doMeet_54 (v := (3 : Int32)) (by decide) ?_
    obtain ⟨r3, hr4, hf⟩ := bd_s hf
    refine J.calli (fun H locs ls a b c => runV hX miX7_sideOf (As := [.int (0 : Int32), .int (3 : Int32)]) (cX7_sideOf_ok (xl X) hW  hr4) g4_45 g4_47 gs_32 cls7 (MK0 hW) (by decide) (ce8 (MK0 hW)) ⟨Nat.le_of_ble_eq_true rfl, Nat.le_of_ble_eq_true rfl⟩ dX7_doMeet_55 rfl (rest := [.int r1]) rfl (Nat.le_of_ble_eq_true rfl) a b c) ?_
    refine r_imul hX dX7_doMeet_58 ?_
    refine r_if_ge hX dX7_doMeet_59 (tgt := 82) (by decide) (fun h => ?_) (fun h => ?_)
    · have hf := ite_t h hf
      refine r_iconst hX dX7_doMeet_82 (v := (0 : Int32)) (by decide) ?_
      cases hf
      exact r_zret hX bz0 dX7_doMeet_83
    · have hf := ite_f h hf
      refine r_aload_n hX dX7_doMeet_62 rfl 1 rfl ?_
      refine r_iconst hX dX7_doMeet_63 (v := (2 : Int32)) (by decide) ?_
      refine r_iconst hX dX7_doMeet_64 (v := (0 : Int32)) (by decide) ?_
      obtain ⟨r5, hr6, hf⟩ := bd_s hf
      refine J.calli (fun H locs ls a b c => runV hX miX7_sideOf (As := [.int (2 : Int32), .int (0 : Int32)]) (cX7_sideOf_ok (xl X) hW  hr6) g4_45 g4_47 gs_32 cls7 (MK0 hW) (by decide) (ce8 (MK0 hW)) ⟨Nat.le_of_ble_eq_true rfl, Nat.le_of_ble_eq_true rfl⟩ dX7_doMeet_65 rfl (rest := []) rfl (Nat.le_of_ble_eq_true rfl) a b c) ?_
      refine r_aload_n hX dX7_doMeet_68 rfl 1 rfl ?_
      refine r_iconst hX dX7_doMeet_69 (v := (2 : Int32)) (by decide) ?_
      refine r_iconst hX dX7_doMeet_70 (v := (1 : Int32)) (by decide) ?_
      obtain ⟨r7, hr8, hf⟩ := bd_s hf
      refine J.calli (fun H locs ls a b c => runV hX miX7_sideOf (As := [.int (2 : Int32), .int (1 : Int32)]) (cX7_sideOf_ok (xl X) hW  hr8) g4_45 g4_47 gs_32 cls7 (MK0 hW) (by decide) (ce8 (MK0 hW)) ⟨Nat.le_of_ble_eq_true rfl, Nat.le_of_ble_eq_true rfl⟩ dX7_doMeet_71 rfl (rest := [.int r5]) rfl (Nat.le_of_ble_eq_true rfl) a b c) ?_
      refine r_imul hX dX7_doMeet_74 ?_
      refine r_if_ge hX dX7_doMeet_75 (tgt := 82) (by decide) (fun h => ?_) (fun h => ?_)
      · have hf := ite_t h hf
        refine r_iconst hX dX7_doMeet_82 (v := (0 : Int32)) (by decide) ?_
        cases hf
        exact r_zret hX bz0 dX7_doMeet_83
      · have hf := ite_f h hf
        refine r_iconst hX dX7_doMeet_78 (v := (1 : Int32)) (by decide) ?_
        refine r_goto hX dX7_doMeet_79 (tgt := 83) (by decide) ?_
        cases hf
        exact r_zret hX bz1 dX7_doMeet_83
set_option maxRecDepth 20000 in
set_option maxHeartbeats 2000000 in
theorem wX7_doMeet_b36 {X : Cx} {w : Wp} {σ : St} {r : Int32}   (hX : OK X w cX7_doMeet 2 RX7 (some .boolean) (rmz 4 101) (Qz w σ r)) (hW : MW w)   (hf : fX7_doMeet_b36 σ = some r) : J X w 2 σ 36 [(0, rf w 0)] [] := by
  rw [fX7_doMeet_b36] at hf
  refine r_iconst hX dX7_doMeet_36 (v := (1 : Int32)) (by decide) ?_
  refine r_goto hX dX7_doMeet_37 (tgt := 41) (by decide) ?_
  exact J.sub [0] rfl (wX7_doMeet_b41 hX hW   hf)
set_option maxRecDepth 20000 in
set_option maxHeartbeats 2000000 in
theorem wX7_doMeet_b0 {X : Cx} {w : Wp} {σ : St} {r : Int32}   (hX : OK X w cX7_doMeet 2 RX7 (some .boolean) (rmz 4 101) (Qz w σ r)) (hW : MW w)   (hf : fX7_doMeet σ = some r) : J X w 2 σ 0 [(0, rf w 0)] [] := by
  rw [fX7_doMeet] at hf
  refine r_aload_n hX dX7_doMeet_0 rfl 0 rfl ?_
  refine r_iconst hX dX7_doMeet_1 (v := (0 : Int32)) (by decide) ?_
  refine r_iconst hX dX7_doMeet_2 (v := (2 : Int32)) (by decide) ?_
  obtain ⟨r1, hr3, hf⟩ := bd_s hf
  refine J.callz (fun H locs ls a b c => runV hX miX7_isOnSegment (As := [.int (0 : Int32), .int (2 : Int32)]) (cX7_isOnSegment_ok (xl X) hW  hr3) g4_32 g4_34 gs_31 cls7 (MK0 hW) (by decide) (ce8 (MK0 hW)) ⟨Nat.le_of_ble_eq_true rfl, Nat.le_of_ble_eq_true rfl⟩ dX7_doMeet_3 rfl (rest := []) rfl (Nat.le_of_ble_eq_true rfl) a b c) (fun hz2 => ?_)
  refine r_if_ne hX dX7_doMeet_6 (tgt := 36) (by decide) (fun h => ?_) (fun h => ?_)
  · have hf := ite_f h hf
    exact J.sub [0] rfl (wX7_doMeet_b36 hX hW   hf)
  · have hf := ite_t h hf
    refine r_aload_n hX dX7_doMeet_9 rfl 0 rfl ?_
    refine r_iconst hX dX7_doMeet_10 (v := (0 : Int32)) (by decide) ?_
    refine r_iconst hX dX7_doMeet_11 (v := (3 : Int32)) (by decide) ?_
    obtain ⟨r4, hr6, hf⟩ := bd_s hf
    refine J.callz (fun H locs ls a b c => runV hX miX7_isOnSegment (As := [.int (0 : Int32), .int (3 : Int32)]) (cX7_isOnSegment_ok (xl X) hW  hr6) g4_32 g4_34 gs_31 cls7 (MK0 hW) (by decide) (ce8 (MK0 hW)) ⟨Nat.le_of_ble_eq_true rfl, Nat.le_of_ble_eq_true rfl⟩ dX7_doMeet_12 rfl (rest := []) rfl (Nat.le_of_ble_eq_true rfl) a b c) (fun hz5 => ?_)
    refine r_if_ne hX dX7_doMeet_15 (tgt := 36) (by decide) (fun h => ?_) (fun h => ?_)
    · have hf := ite_f h hf
      exact J.sub [0] rfl (wX7_doMeet_b36 hX hW   hf)
    · have hf := ite_t h hf
      refine r_aload_n hX dX7_doMeet_18 rfl 0 rfl ?_
      refine r_iconst hX dX7_doMeet_19 (v := (2 : Int32)) (by decide) ?_
      refine r_iconst hX dX7_doMeet_20 (v := (0 : Int32)) (by decide) ?_
      obtain ⟨r7, hr9, hf⟩ := bd_s hf
      refine J.callz (fun H locs ls a b c => runV hX miX7_isOnSegment (As := [.int (2 : Int32), .int (0 : Int32)]) (cX7_isOnSegment_ok (xl X) hW  hr9) g4_32 g4_34 gs_31 cls7 (MK0 hW) (by decide) (ce8 (MK0 hW)) ⟨Nat.le_of_ble_eq_true rfl, Nat.le_of_ble_eq_true rfl⟩ dX7_doMeet_21 rfl (rest := []) rfl (Nat.le_of_ble_eq_true rfl) a b c) (fun hz8 => ?_)
      refine r_if_ne hX dX7_doMeet_24 (tgt := 36) (by decide) (fun h => ?_) (fun h => ?_)
      · have hf := ite_f h hf
        exact J.sub [0] rfl (wX7_doMeet_b36 hX hW   hf)
      · have hf := ite_t h hf
        refine r_aload_n hX dX7_doMeet_27 rfl 0 rfl ?_
        refine r_iconst hX dX7_doMeet_28 (v := (2 : Int32)) (by decide) ?_
        refine r_iconst hX dX7_doMeet_29 (v := (1 : Int32)) (by decide) ?_
        obtain ⟨r10, hr12, hf⟩ := bd_s hf
        refine J.callz (fun H locs ls a b c => runV hX miX7_isOnSegment (As := [.int (2 : Int32), .int (1 : Int32)]) (cX7_isOnSegment_ok (xl X) hW  hr12) g4_32 g4_34 gs_31 cls7 (MK0 hW) (by decide) (ce8 (MK0 hW)) ⟨Nat.le_of_ble_eq_true rfl, Nat.le_of_ble_eq_true rfl⟩ dX7_doMeet_30 rfl (rest := []) rfl (Nat.le_of_ble_eq_true rfl) a b c) (fun hz11 => ?_)
        refine r_if_eq hX dX7_doMeet_33 (tgt := 40) (by decide) (fun h => ?_) (fun h => ?_)
        · have hf := ite_t h hf
          refine r_iconst hX dX7_doMeet_40 (v := (0 : Int32)) (by decide) ?_
          exact J.sub [0] rfl (wX7_doMeet_b41 hX hW   hf)
        · have hf := ite_f h hf
          exact J.sub [0] rfl (wX7_doMeet_b36 hX hW   hf)
theorem miX7_doMeet : MI yX7_doMeet cX7_doMeet 2 (some .boolean) 0 := ⟨g4_31, ⟨by decide, by decide, by decide +kernel⟩, g1_6, by decide +kernel⟩
theorem cX7_doMeet_ok (l : Launch) {w : Wp} {σ : St} {r : Int32}  (hW : MW w)  (hf : fX7_doMeet σ = some r) : CM l w yX7_doMeet cX7_doMeet 2 (some .boolean) (rmz 4 101) [rf w 0] σ (Qz w σ r) := CM.of miX7_doMeet.2.2.2 (Nat.le_of_ble_eq_true rfl) (fun X hcl hX => J.sub [0] rfl (wX7_doMeet_b0 hX hW  hf))
-- X7_crossingsNow
set_option maxRecDepth 20000 in
set_option maxHeartbeats 2000000 in
theorem wX7_crossingsNow_b73 {X : Cx} {w : Wp} {σ : St} {r : Int32} {σ' : St} {k5 : St → Int32 → Int32 → Int32 → Int32 → Option (Int32 × St)} {k19 : St → Int32 → Int32 → Int32 → Int32 → Int32 → Option (Int32 × St)} {x1 : Int32} {x2 : Int32} {x4 : Int32} {x5 : Int32} {xs0 : Int32} {xs1 : Int32} (hX : OK X w cX7_crossingsNow 6 RX7 (some .int) (rmz 5 122) (Qi w σ' r)) (hW : MW w) (hk5 : ∀ (σ : St) (x1 : Int32) (x2 : Int32) (x3 : Int32) (x4 : Int32), k5 σ x1 x2 x3 x4 = some (r, σ') → J X w 6 σ 5 [(0, rf w 0), (1, .int x1), (2, .int x2), (3, .int x3), (4, .int x4)] []) (hk19 : ∀ (σ : St) (x1 : Int32) (x2 : Int32) (x3 : Int32) (x4 : Int32) (x5 : Int32), k19 σ x1 x2 x3 x4 x5 = some (r, σ') → J X w 6 σ 19 [(0, rf w 0), (1, .int x1), (2, .int x2), (3, .int x3), (4, .int x4), (5, .int x5)] [])  (hf : fX7_crossingsNow_b73 k5 k19 σ x1 x2 x4 x5 xs0 xs1 = some (r, σ')) : J X w 6 σ 73 [(0, rf w 0), (1, .int x1), (2, .int x2), (4, .int x4), (5, .int x5)] [.int xs1, .int xs0] := by
  rw [fX7_crossingsNow_b73] at hf
  refine r_iadd hX dX7_crossingsNow_73 ?_
  refine r_istore_n hX (i := 3) dX7_crossingsNow_74 rfl (by decide) rfl ?_
  refine r_iincC hX dX7_crossingsNow_75 5 rfl (d := (1 : Int32)) (by decide) (by decide) rfl ?_
  refine r_goto hX dX7_crossingsNow_78 (tgt := 19) (by decide) ?_
  exact J.sub [2, 3, 4, 1, 5, 0] rfl (hk19 _ _ _ _ _ _  hf)
set_option maxRecDepth 20000 in
set_option maxHeartbeats 2000000 in
theorem wX7_crossingsNow_L19 {X : Cx} {w : Wp} {r : Int32} {σ' : St} {k5 : St → Int32 → Int32 → Int32 → Int32 → Option (Int32 × St)} (hX : OK X w cX7_crossingsNow 6 RX7 (some .int) (rmz 5 122) (Qi w σ' r)) (hW : MW w) (hk5 : ∀ (σ : St) (x1 : Int32) (x2 : Int32) (x3 : Int32) (x4 : Int32), k5 σ x1 x2 x3 x4 = some (r, σ') → J X w 6 σ 5 [(0, rf w 0), (1, .int x1), (2, .int x2), (3, .int x3), (4, .int x4)] []) : ∀ (n : Nat) (σ : St) (x1 : Int32) (x2 : Int32) (x3 : Int32) (x4 : Int32) (x5 : Int32), fX7_crossingsNow_L19 k5 n σ x1 x2 x3 x4 x5 = some (r, σ') → J X w 6 σ 19 [(0, rf w 0), (1, .int x1), (2, .int x2), (3, .int x3), (4, .int x4), (5, .int x5)] [] := by
  intro n
  induction n with
  | zero =>
    intro σ x1 x2 x3 x4 x5 hf
    cases hf
  | succ n ih =>
    intro σ x1 x2 x3 x4 x5 hf
    rw [fX7_crossingsNow_L19] at hf
    refine r_iload hX dX7_crossingsNow_19 5 rfl ?_
    refine r_aload_n hX dX7_crossingsNow_21 rfl 0 rfl ?_
    refine r_get hX cls7 (MK0 hW) (by decide) (ce8 (MK0 hW)) 5 (by decide) g3_66 rfl dX7_crossingsNow_22 (rf w 4) rfl ?_
    refine r_iload_n hX dX7_crossingsNow_25 rfl 2 rfl ?_
    obtain ⟨hi10, hf⟩ := grd_some hf
    refine r_iald hX (MK4 hW) (ML4 hW) hi10 dX7_crossingsNow_26 ?_
    refine r_icmp_ge hX dX7_crossingsNow_27 (tgt := 81) (by decide) (fun h => ?_) (fun h => ?_)
    · have hf := ite_t h hf
      refine r_iincC hX dX7_crossingsNow_81 4 rfl (d := (1 : Int32)) (by decide) (by decide) rfl ?_
      refine r_goto hX dX7_crossingsNow_84 (tgt := 5) (by decide) ?_
      exact J.sub [1, 2, 3, 4, 0] rfl (hk5 _ _ _ _ _  hf)
    · have hf := ite_f h hf
      refine r_aload_n hX dX7_crossingsNow_30 rfl 0 rfl ?_
      refine r_iconst hX dX7_crossingsNow_31 (v := (0 : Int32)) (by decide) ?_
      refine r_iload_n hX dX7_crossingsNow_32 rfl 1 rfl ?_
      refine r_iload hX dX7_crossingsNow_33 4 rfl ?_
      refine r_aload_n hX dX7_crossingsNow_35 rfl 0 rfl ?_
      refine r_get hX cls7 (MK0 hW) (by decide) (ce8 (MK0 hW)) 16 (by decide) g3_77 rfl dX7_crossingsNow_36 (rf w 14) rfl ?_
      refine r_iload_n hX dX7_crossingsNow_39 rfl 2 rfl ?_
      obtain ⟨hi9, hf⟩ := grd_some hf
      refine r_iald hX (MK14 hW) (ML14 hW) hi9 dX7_crossingsNow_40 ?_
      refine r_i2l hX dX7_crossingsNow_41 ?_
      obtain ⟨σ1, hr2, hf⟩ := bd_s hf
      refine J.callv (fun H locs ls a b c => runV hX miX7_layEnds (As := [.int (0 : Int32), .int x1, .int x4, .long (((σ.1 14 (ix x2))).toInt64)]) (cX7_layEnds_ok (xl X) hW  hr2) g4_24 g4_26 gs_29 cls7 (MK0 hW) (by decide) (ce8 (MK0 hW)) ⟨Nat.le_of_ble_eq_true rfl, Nat.le_of_ble_eq_true rfl⟩ dX7_crossingsNow_42 rfl (rest := []) rfl (Nat.le_of_ble_eq_true rfl) a b c) ?_
      refine r_aload_n hX dX7_crossingsNow_45 rfl 0 rfl ?_
      refine r_iconst hX dX7_crossingsNow_46 (v := (2 : Int32)) (by decide) ?_
      refine r_iload_n hX dX7_crossingsNow_47 rfl 2 rfl ?_
      refine r_iload hX dX7_crossingsNow_48 5 rfl ?_
      refine r_aload_n hX dX7_crossingsNow_50 rfl 0 rfl ?_
      refine r_get hX cls7 (MK0 hW) (by decide) (ce8 (MK0 hW)) 16 (by decide) g3_77 rfl dX7_crossingsNow_51 (rf w 14) rfl ?_
      refine r_iload_n hX dX7_crossingsNow_54 rfl 1 rfl ?_
      obtain ⟨hi8, hf⟩ := grd_some hf
      refine r_iald hX (MK14 hW) (ML14 hW) hi8 dX7_crossingsNow_55 ?_
      refine r_i2l hX dX7_crossingsNow_56 ?_
      obtain ⟨σ3, hr4, hf⟩ := bd_s hf
      refine J.callv (fun H locs ls a b c => runV hX miX7_layEnds (As := [.int (2 : Int32), .int x2, .int x5, .long (((σ1.1 14 (ix x1))).toInt64)]) (cX7_layEnds_ok (xl X) hW  hr4) g4_24 g4_26 gs_29 cls7 (MK0 hW) (by decide) (ce8 (MK0 hW)) ⟨Nat.le_of_ble_eq_true rfl, Nat.le_of_ble_eq_true rfl⟩ dX7_crossingsNow_57 rfl (rest := []) rfl (Nat.le_of_ble_eq_true rfl) a b c) ?_
      refine r_iload_n hX dX7_crossingsNow_60 rfl 3 rfl ?_
      refine r_aload_n hX dX7_crossingsNow_61 rfl 0 rfl ?_
      obtain ⟨r5, hr7, hf⟩ := bd_s hf
      refine J.callz (fun H locs ls a b c => runV hX miX7_doMeet (As := []) (cX7_doMeet_ok (xl X) hW  hr7) g4_28 g4_30 gs_30 cls7 (MK0 hW) (by decide) (ce8 (MK0 hW)) ⟨Nat.le_of_ble_eq_true rfl, Nat.le_of_ble_eq_true rfl⟩ dX7_crossingsNow_62 rfl (rest := [.int x3]) rfl (Nat.le_of_ble_eq_true rfl) a b c) (fun hz6 => ?_)
      refine r_if_eq hX dX7_crossingsNow_65 (tgt := 72) (by decide) (fun h => ?_) (fun h => ?_)
      · have hf := ite_t h hf
        refine r_iconst hX dX7_crossingsNow_72 (v := (0 : Int32)) (by decide) ?_
        exact J.sub [0, 1, 2, 4, 5] rfl (wX7_crossingsNow_b73 hX hW hk5 ih  hf)
      · have hf := ite_f h hf
        refine r_iconst hX dX7_crossingsNow_68 (v := (1 : Int32)) (by decide) ?_
        refine r_goto hX dX7_crossingsNow_69 (tgt := 73) (by decide) ?_
        exact J.sub [0, 1, 2, 4, 5] rfl (wX7_crossingsNow_b73 hX hW hk5 ih  hf)
set_option maxRecDepth 20000 in
set_option maxHeartbeats 2000000 in
theorem wX7_crossingsNow_L5 {X : Cx} {w : Wp} {r : Int32} {σ' : St}  (hX : OK X w cX7_crossingsNow 6 RX7 (some .int) (rmz 5 122) (Qi w σ' r)) (hW : MW w)  : ∀ (n : Nat) (σ : St) (x1 : Int32) (x2 : Int32) (x3 : Int32) (x4 : Int32), fX7_crossingsNow_L5 n σ x1 x2 x3 x4 = some (r, σ') → J X w 6 σ 5 [(0, rf w 0), (1, .int x1), (2, .int x2), (3, .int x3), (4, .int x4)] [] := by
  intro n
  induction n with
  | zero =>
    intro σ x1 x2 x3 x4 hf
    cases hf
  | succ n ih =>
    intro σ x1 x2 x3 x4 hf
    rw [fX7_crossingsNow_L5] at hf
    refine r_iload hX dX7_crossingsNow_5 4 rfl ?_
    refine r_aload_n hX dX7_crossingsNow_7 rfl 0 rfl ?_
    refine r_get hX cls7 (MK0 hW) (by decide) (ce8 (MK0 hW)) 5 (by decide) g3_66 rfl dX7_crossingsNow_8 (rf w 4) rfl ?_
    refine r_iload_n hX dX7_crossingsNow_11 rfl 1 rfl ?_
    obtain ⟨hi1, hf⟩ := grd_some hf
    refine r_iald hX (MK4 hW) (ML4 hW) hi1 dX7_crossingsNow_12 ?_
    refine r_icmp_ge hX dX7_crossingsNow_13 (tgt := 87) (by decide) (fun h => ?_) (fun h => ?_)
    · have hf := ite_t h hf
      refine r_iload_n hX dX7_crossingsNow_87 rfl 3 rfl ?_
      cases hf
      exact r_iret hX dX7_crossingsNow_88
    · have hf := ite_f h hf
      refine r_iconst hX dX7_crossingsNow_16 (v := (0 : Int32)) (by decide) ?_
      refine r_istore hX (i := 5) dX7_crossingsNow_17 (by decide) rfl ?_
      exact J.sub [1, 2, 3, 4, 5, 0] rfl (wX7_crossingsNow_L19 hX hW ih _ _ _ _ _ _ _  hf)
set_option maxRecDepth 20000 in
set_option maxHeartbeats 2000000 in
theorem wX7_crossingsNow_b0 {X : Cx} {w : Wp} {σ : St} {r : Int32} {σ' : St}  {x1 : Int32} {x2 : Int32} (hX : OK X w cX7_crossingsNow 6 RX7 (some .int) (rmz 5 122) (Qi w σ' r)) (hW : MW w)   (hf : fX7_crossingsNow σ x1 x2 = some (r, σ')) : J X w 6 σ 0 [(0, rf w 0), (1, .int x1), (2, .int x2)] [] := by
  rw [fX7_crossingsNow] at hf
  refine r_iconst hX dX7_crossingsNow_0 (v := (0 : Int32)) (by decide) ?_
  refine r_istore_n hX (i := 3) dX7_crossingsNow_1 rfl (by decide) rfl ?_
  refine r_iconst hX dX7_crossingsNow_2 (v := (0 : Int32)) (by decide) ?_
  refine r_istore hX (i := 4) dX7_crossingsNow_3 (by decide) rfl ?_
  exact J.sub [2, 3, 4, 1, 0] rfl (wX7_crossingsNow_L5 hX hW  _ _ _ _ _ _  hf)
theorem miX7_crossingsNow : MI yX7_crossingsNow cX7_crossingsNow 6 (some .int) 2 := ⟨g4_23, ⟨by decide, by decide, by decide +kernel⟩, g1_6, by decide +kernel⟩
theorem cX7_crossingsNow_ok (l : Launch) {w : Wp} {σ : St} {r : Int32} {σ' : St} {x1 : Int32} {x2 : Int32} (hW : MW w)  (hf : fX7_crossingsNow σ x1 x2 = some (r, σ')) : CM l w yX7_crossingsNow cX7_crossingsNow 6 (some .int) (rmz 5 122) [rf w 0, .int x1, .int x2] σ (Qi w σ' r) := CM.of miX7_crossingsNow.2.2.2 (Nat.le_of_ble_eq_true rfl) (fun X hcl hX => J.sub [0, 1, 2] rfl (wX7_crossingsNow_b0 hX hW  hf))
-- X7_twoBarred
set_option maxRecDepth 20000 in
set_option maxHeartbeats 2000000 in
theorem wX7_twoBarred_b0 {X : Cx} {w : Wp} {σ : St} {r : Int32}  {x1 : Int32} {x2 : Int32} {x3 : Int32} (hX : OK X w cX7_twoBarred 4 RX7 (some .int) (rmz 2 43) (Qi w σ r)) (hW : MW w)   (hf : fX7_twoBarred σ x1 x2 x3 = r) : J X w 4 σ 0 [(0, rf w 0), (1, .int x1), (2, .int x2), (3, .int x3)] [] := by
  rw [fX7_twoBarred] at hf
  refine r_aload_n hX dX7_twoBarred_0 rfl 0 rfl ?_
  refine r_iload_n hX dX7_twoBarred_1 rfl 1 rfl ?_
  refine J.callz (fun H locs ls a b c => runV hX miX7_noFigure (As := [.int x1]) (cX7_noFigure_ok (xl X) hW  rfl) g3_159 g3_161 gs_17 cls7 (MK0 hW) (by decide) (ce8 (MK0 hW)) ⟨Nat.le_of_ble_eq_true rfl, Nat.le_of_ble_eq_true rfl⟩ dX7_twoBarred_2 rfl (rest := []) rfl (Nat.le_of_ble_eq_true rfl) a b c) (fun hz1 => ?_)
  refine r_if_ne hX dX7_twoBarred_5 (tgt := 16) (by decide) (fun h => ?_) (fun h => ?_)
  · have hf := ite_f h hf
    refine r_iconst hX dX7_twoBarred_16 (v := (-1 : Int32)) (by decide) ?_
    refine r_goto hX dX7_twoBarred_17 (tgt := 38) (by decide) ?_
    subst hf
    exact r_iret hX dX7_twoBarred_38
  · have hf := ite_t h hf
    refine r_aload_n hX dX7_twoBarred_8 rfl 0 rfl ?_
    refine r_iload_n hX dX7_twoBarred_9 rfl 2 rfl ?_
    refine J.callz (fun H locs ls a b c => runV hX miX7_noFigure (As := [.int x2]) (cX7_noFigure_ok (xl X) hW  rfl) g3_159 g3_161 gs_17 cls7 (MK0 hW) (by decide) (ce8 (MK0 hW)) ⟨Nat.le_of_ble_eq_true rfl, Nat.le_of_ble_eq_true rfl⟩ dX7_twoBarred_10 rfl (rest := []) rfl (Nat.le_of_ble_eq_true rfl) a b c) (fun hz2 => ?_)
    refine r_if_eq hX dX7_twoBarred_13 (tgt := 20) (by decide) (fun h => ?_) (fun h => ?_)
    · have hf := ite_t h hf
      refine r_iload_n hX dX7_twoBarred_20 rfl 3 rfl ?_
      refine J.callz (fun H locs ls a b c => runS hX miX7_isBeat (cX7_isBeat_ok (xl X)  rfl) g3_175 g3_176 ⟨Nat.le_of_ble_eq_true rfl, Nat.le_of_ble_eq_true rfl⟩ dX7_twoBarred_21 rfl (As := [.int x3]) (rest := []) rfl (Nat.le_of_ble_eq_true rfl) a b c) (fun hz3 => ?_)
      refine r_if_eq hX dX7_twoBarred_24 (tgt := 32) (by decide) (fun h => ?_) (fun h => ?_)
      · have hf := ite_t h hf
        refine r_bipush hX dX7_twoBarred_32 (v := (-3 : Int32)) (by decide) ?_
        refine r_goto hX dX7_twoBarred_34 (tgt := 38) (by decide) ?_
        subst hf
        exact r_iret hX dX7_twoBarred_38
      · have hf := ite_f h hf
        refine r_iload_n hX dX7_twoBarred_27 rfl 1 rfl ?_
        refine r_iload_n hX dX7_twoBarred_28 rfl 2 rfl ?_
        refine r_icmp_ne hX dX7_twoBarred_29 (tgt := 37) (by decide) (fun h => ?_) (fun h => ?_)
        · have hf := ite_f h hf
          refine r_iconst hX dX7_twoBarred_37 (v := (0 : Int32)) (by decide) ?_
          subst hf
          exact r_iret hX dX7_twoBarred_38
        · have hf := ite_t h hf
          refine r_bipush hX dX7_twoBarred_32 (v := (-3 : Int32)) (by decide) ?_
          refine r_goto hX dX7_twoBarred_34 (tgt := 38) (by decide) ?_
          subst hf
          exact r_iret hX dX7_twoBarred_38
    · have hf := ite_f h hf
      refine r_iconst hX dX7_twoBarred_16 (v := (-1 : Int32)) (by decide) ?_
      refine r_goto hX dX7_twoBarred_17 (tgt := 38) (by decide) ?_
      subst hf
      exact r_iret hX dX7_twoBarred_38
theorem miX7_twoBarred : MI yX7_twoBarred cX7_twoBarred 4 (some .int) 3 := ⟨g4_19, ⟨by decide, by decide, by decide +kernel⟩, g1_6, by decide +kernel⟩
theorem cX7_twoBarred_ok (l : Launch) {w : Wp} {σ : St} {r : Int32} {x1 : Int32} {x2 : Int32} {x3 : Int32} (hW : MW w)  (hf : fX7_twoBarred σ x1 x2 x3 = r) : CM l w yX7_twoBarred cX7_twoBarred 4 (some .int) (rmz 2 43) [rf w 0, .int x1, .int x2, .int x3] σ (Qi w σ r) := CM.of miX7_twoBarred.2.2.2 (Nat.le_of_ble_eq_true rfl) (fun X hcl hX => J.sub [0, 1, 2, 3] rfl (wX7_twoBarred_b0 hX hW  hf))
