-- X6_inRange
set_option maxRecDepth 20000 in
set_option maxHeartbeats 2000000 in
theorem wX6_inRange_b0 {X : Cx} {w : Wp} {σ : St} {r : Int32}  {x0 : Int32} {x1 : Int32} {x2 : Int32} (hX : OK X w cX6_inRange 3 RX6 (some .boolean) (rmz 0 0) (Qz w σ r))    (hf : fX6_inRange x0 x1 x2 = r) : J X w 3 σ 0 [(0, .int x0), (1, .int x1), (2, .int x2)] [] := by
  rw [fX6_inRange] at hf
  refine r_iload_n hX dX6_inRange_0 rfl 1 rfl ?_
  refine r_iload_n hX dX6_inRange_1 rfl 0 rfl ?_
  refine r_icmp_gt hX dX6_inRange_2 (tgt := 14) (by decide) (fun h => ?_) (fun h => ?_)
  · have hf := ite_t h hf
    refine r_iconst hX dX6_inRange_14 (v := (0 : Int32)) (by decide) ?_
    subst hf
    exact r_zret hX bz0 dX6_inRange_15
  · have hf := ite_f h hf
    refine r_iload_n hX dX6_inRange_5 rfl 0 rfl ?_
    refine r_iload_n hX dX6_inRange_6 rfl 2 rfl ?_
    refine r_icmp_gt hX dX6_inRange_7 (tgt := 14) (by decide) (fun h => ?_) (fun h => ?_)
    · have hf := ite_t h hf
      refine r_iconst hX dX6_inRange_14 (v := (0 : Int32)) (by decide) ?_
      subst hf
      exact r_zret hX bz0 dX6_inRange_15
    · have hf := ite_f h hf
      refine r_iconst hX dX6_inRange_10 (v := (1 : Int32)) (by decide) ?_
      refine r_goto hX dX6_inRange_11 (tgt := 15) (by decide) ?_
      subst hf
      exact r_zret hX bz1 dX6_inRange_15
theorem miX6_inRange : MI yX6_inRange cX6_inRange 3 (some .boolean) 3 := ⟨g1_155, ⟨by decide, by decide, by decide +kernel⟩, g1_1, by decide +kernel⟩
theorem cX6_inRange_ok (l : Launch) {w : Wp} {σ : St} {r : Int32} {x0 : Int32} {x1 : Int32} {x2 : Int32}   (hf : fX6_inRange x0 x1 x2 = r) : CM l w yX6_inRange cX6_inRange 3 (some .boolean) (rmz 0 0) [.int x0, .int x1, .int x2] σ (Qz w σ r) := CM.of miX6_inRange.2.2.2 (Nat.le_of_ble_eq_true rfl) (fun X hcl hX => J.sub [0, 1, 2] rfl (wX6_inRange_b0 hX   hf))
-- X0_hasLimb
set_option maxRecDepth 20000 in
set_option maxHeartbeats 2000000 in
theorem wX0_hasLimb_b0 {X : Cx} {w : Wp} {σ : St} {r : Int32} {t0 : Nat}  {x1 : Int32} (hX : OK X w cX0_hasLimb 2 RX0 (some .boolean) (rmz 1 22) (Qz w σ r)) (hW : CW w) (h0 : wK w t0 = 1)   (hf : fX0_hasLimb σ t0 x1 = r) : J X w 2 σ 0 [(0, rf w t0), (1, .int x1)] [] := by
  rw [fX0_hasLimb] at hf
  refine r_iload_n hX dX0_hasLimb_0 rfl 1 rfl ?_
  refine r_iconst hX dX0_hasLimb_1 (v := (0 : Int32)) (by decide) ?_
  refine r_aload_n hX dX0_hasLimb_2 rfl 0 rfl ?_
  refine r_get hX cls0 h0 (by decide) (ce1 h0) 7 (by decide) g1_179 rfl dX0_hasLimb_3 (.int (σ.1 t0 7)) rfl ?_
  refine r_iconst hX dX0_hasLimb_6 (v := (1 : Int32)) (by decide) ?_
  refine r_isub hX dX0_hasLimb_7 ?_
  refine J.callz (fun H locs ls a b c => runSN hX miX6_inRange (cX6_inRange_ok (xl X)  rfl) hX.2.2.2.2.2.1.2.1.1 g1_154 ⟨Nat.le_of_ble_eq_true rfl, Nat.le_of_ble_eq_true rfl⟩ dX0_hasLimb_8 rfl (As := [.int x1, .int (0 : Int32), .int ((σ.1 t0 7) - (1 : Int32))]) (rest := []) rfl (Nat.le_of_ble_eq_true rfl) a b c) (fun hz1 => ?_)
  subst hf
  exact r_zret hX hz1 dX0_hasLimb_11
theorem miX0_hasLimb : MI yX0_hasLimb cX0_hasLimb 2 (some .boolean) 1 := ⟨g1_210, ⟨by decide, by decide, by decide +kernel⟩, g1_7, by decide +kernel⟩
theorem cX0_hasLimb_ok (l : Launch) {w : Wp} {σ : St} {r : Int32} {t0 : Nat} {x1 : Int32} (hW : CW w) (h0 : wK w t0 = 1)  (hf : fX0_hasLimb σ t0 x1 = r) : CM l w yX0_hasLimb cX0_hasLimb 2 (some .boolean) (rmz 1 22) [rf w t0, .int x1] σ (Qz w σ r) := CM.of miX0_hasLimb.2.2.2 (Nat.le_of_ble_eq_true rfl) (fun X hcl hX => J.sub [0, 1] rfl (wX0_hasLimb_b0 hX hW h0  hf))
-- X0_grow
set_option maxRecDepth 20000 in
set_option maxHeartbeats 2000000 in
theorem wX0_grow_b52 {X : Cx} {w : Wp} {σ : St} {r : Int32} {σ' : St} {t0 : Nat}  {x4 : Int32} (hX : OK X w cX0_grow 5 RX0 (some .int) (rmz 0 0) (Qi w σ' r)) (hW : CW w) (h0 : wK w t0 = 1)   (hf : fX0_grow_b52 t0 σ x4 = some (r, σ')) : J X w 5 σ 52 [(4, .int x4)] [] := by
  rw [fX0_grow_b52] at hf
  refine r_iload hX dX0_grow_52 0 rfl ?_
  cases hf
  exact r_iret hX dX0_grow_54
set_option maxRecDepth 20000 in
set_option maxHeartbeats 2000000 in
theorem wX0_grow_b42 {X : Cx} {w : Wp} {σ : St} {r : Int32} {σ' : St} {t0 : Nat}  {x4 : Int32} (hX : OK X w cX0_grow 5 RX0 (some .int) (rmz 0 0) (Qi w σ' r)) (hW : CW w) (h0 : wK w t0 = 1)   (hf : fX0_grow_b42 t0 σ x4 = some (r, σ')) : J X w 5 σ 42 [(0, rf w t0), (4, .int x4)] [] := by
  rw [fX0_grow_b42] at hf
  refine r_aload_n hX dX0_grow_42 rfl 0 rfl ?_
  refine r_dup hX dX0_grow_43 rfl ?_
  refine r_get hX cls0 h0 (by decide) (ce1 h0) 7 (by decide) g1_179 rfl dX0_grow_44 (.int (σ.1 t0 7)) rfl ?_
  refine r_iconst hX dX0_grow_47 (v := (1 : Int32)) (by decide) ?_
  refine r_iadd hX dX0_grow_48 ?_
  refine r_putI hX cls0 h0 (by decide) (fun _ _ _ => ce1 h0) 7 (by decide) g1_179 rfl rfl (tyX0_ok 7 (by decide)) (fun _ _ => Nat.le_of_ble_eq_true rfl) dX0_grow_49 (fun _ _ => rfl) ?_
  exact J.sub [1] rfl (wX0_grow_b52 hX hW h0   hf)
set_option maxRecDepth 20000 in
set_option maxHeartbeats 2000000 in
theorem wX0_grow_b34 {X : Cx} {w : Wp} {σ : St} {r : Int32} {σ' : St} {t0 : Nat}  {x3 : Int32} {x4 : Int32} (hX : OK X w cX0_grow 5 RX0 (some .int) (rmz 0 0) (Qi w σ' r)) (hW : CW w) (h0 : wK w t0 = 1)   (hf : fX0_grow_b34 t0 σ x3 x4 = some (r, σ')) : J X w 5 σ 34 [(0, rf w t0), (3, .int x3), (4, .int x4)] [] := by
  rw [fX0_grow_b34] at hf
  refine r_aload_n hX dX0_grow_34 rfl 0 rfl ?_
  refine r_get hX cls0 h0 (by decide) (ce1 h0) 6 (by decide) g1_177 rfl dX0_grow_35 (rf w (t0 + 3)) rfl ?_
  refine r_iload hX dX0_grow_38 2 rfl ?_
  refine r_iload_n hX dX0_grow_40 rfl 1 rfl ?_
  obtain ⟨hi1, hf⟩ := grd_some hf
  refine r_iast hX (CFk3 hW h0) (CFl3 hW h0) hi1 dX0_grow_41 ?_
  exact J.sub [0, 2] rfl (wX0_grow_b42 hX hW h0   hf)
set_option maxRecDepth 20000 in
set_option maxHeartbeats 2000000 in
theorem wX0_grow_b26 {X : Cx} {w : Wp} {σ : St} {r : Int32} {σ' : St} {t0 : Nat}  {x2 : Int32} {x3 : Int32} {x4 : Int32} (hX : OK X w cX0_grow 5 RX0 (some .int) (rmz 0 0) (Qi w σ' r)) (hW : CW w) (h0 : wK w t0 = 1)   (hf : fX0_grow_b26 t0 σ x2 x3 x4 = some (r, σ')) : J X w 5 σ 26 [(0, rf w t0), (2, .int x2), (3, .int x3), (4, .int x4)] [] := by
  rw [fX0_grow_b26] at hf
  refine r_aload_n hX dX0_grow_26 rfl 0 rfl ?_
  refine r_get hX cls0 h0 (by decide) (ce1 h0) 5 (by decide) g1_175 rfl dX0_grow_27 (rf w (t0 + 2)) rfl ?_
  refine r_iload hX dX0_grow_30 3 rfl ?_
  refine r_iload_n hX dX0_grow_32 rfl 1 rfl ?_
  obtain ⟨hi1, hf⟩ := grd_some hf
  refine r_iast hX (CFk2 hW h0) (CFl2 hW h0) hi1 dX0_grow_33 ?_
  exact J.sub [0, 2, 3] rfl (wX0_grow_b34 hX hW h0   hf)
set_option maxRecDepth 20000 in
set_option maxHeartbeats 2000000 in
theorem wX0_grow_b0 {X : Cx} {w : Wp} {σ : St} {r : Int32} {σ' : St} {t0 : Nat}  {x1 : Int32} {x2 : Int32} {x3 : Int32} (hX : OK X w cX0_grow 5 RX0 (some .int) (rmz 0 0) (Qi w σ' r)) (hW : CW w) (h0 : wK w t0 = 1)   (hf : fX0_grow t0 σ x1 x2 x3 = some (r, σ')) : J X w 5 σ 0 [(0, rf w t0), (1, .int x1), (2, .int x2), (3, .int x3)] [] := by
  rw [fX0_grow] at hf
  refine r_aload_n hX dX0_grow_0 rfl 0 rfl ?_
  refine r_get hX cls0 h0 (by decide) (ce1 h0) 7 (by decide) g1_179 rfl dX0_grow_1 (.int (σ.1 t0 7)) rfl ?_
  refine r_bipush hX dX0_grow_4 (v := (8 : Int32)) (by decide) ?_
  refine r_icmp_lt hX dX0_grow_6 (tgt := 12) (by decide) (fun h => ?_) (fun h => ?_)
  · have hf := ite_t h hf
    refine r_aload_n hX dX0_grow_12 rfl 0 rfl ?_
    refine r_get hX cls0 h0 (by decide) (ce1 h0) 7 (by decide) g1_179 rfl dX0_grow_13 (.int (σ.1 t0 7)) rfl ?_
    refine r_istore hX (i := 4) dX0_grow_16 (by decide) rfl ?_
    refine r_aload_n hX dX0_grow_18 rfl 1 rfl ?_
    refine r_get hX cls0 h0 (by decide) (ce1 h0) 4 (by decide) g1_174 rfl dX0_grow_19 (rf w (t0 + 1)) rfl ?_
    refine r_iload hX dX0_grow_22 0 rfl ?_
    refine r_iload_n hX dX0_grow_24 rfl 2 rfl ?_
    obtain ⟨hi1, hf⟩ := grd_some hf
    refine r_iast hX (CFk1 hW h0) (CFl1 hW h0) hi1 dX0_grow_25 ?_
    exact J.sub [1, 3, 4, 0] rfl (wX0_grow_b26 hX hW h0   hf)
  · have hf := ite_f h hf
    refine r_bipush hX dX0_grow_9 (v := (-4 : Int32)) (by decide) ?_
    cases hf
    exact r_iret hX dX0_grow_11
theorem miX0_grow : MI yX0_grow cX0_grow 5 (some .int) 3 := ⟨g1_215, ⟨by decide, by decide, by decide +kernel⟩, g1_7, by decide +kernel⟩
theorem cX0_grow_ok (l : Launch) {w : Wp} {σ : St} {r : Int32} {σ' : St} {t0 : Nat} {x1 : Int32} {x2 : Int32} {x3 : Int32} (hW : CW w) (h0 : wK w t0 = 1)  (hf : fX0_grow t0 σ x1 x2 x3 = some (r, σ')) : CM l w yX0_grow cX0_grow 5 (some .int) (rmz 0 0) [rf w t0, .int x1, .int x2, .int x3] σ (Qi w σ' r) := CM.of miX0_grow.2.2.2 (Nat.le_of_ble_eq_true rfl) (fun X hcl hX => J.sub [0, 1, 2, 3] rfl (wX0_grow_b0 hX hW h0  hf))
-- X0_start
set_option maxRecDepth 20000 in
set_option maxHeartbeats 2000000 in
theorem wX0_start_b0 {X : Cx} {w : Wp} {σ : St} {r : Int32} {t0 : Nat}  {x1 : Int32} (hX : OK X w cX0_start 2 RX0 (some .int) (rmz 0 0) (Qi w σ r)) (hW : CW w) (h0 : wK w t0 = 1)   (hf : fX0_start σ t0 x1 = some r) : J X w 2 σ 0 [(0, rf w t0), (1, .int x1)] [] := by
  rw [fX0_start] at hf
  refine r_aload_n hX dX0_start_0 rfl 0 rfl ?_
  refine r_get hX cls0 h0 (by decide) (ce1 h0) 4 (by decide) g1_174 rfl dX0_start_1 (rf w (t0 + 1)) rfl ?_
  refine r_iload_n hX dX0_start_4 rfl 1 rfl ?_
  obtain ⟨hi1, hf⟩ := grd_some hf
  refine r_iald hX (CFk1 hW h0) (CFl1 hW h0) hi1 dX0_start_5 ?_
  refine r_iconst hX dX0_start_6 (v := (1 : Int32)) (by decide) ?_
  refine r_iadd hX dX0_start_7 ?_
  cases hf
  exact r_iret hX dX0_start_8
theorem miX0_start : MI yX0_start cX0_start 2 (some .int) 1 := ⟨g2_89, ⟨by decide, by decide, by decide +kernel⟩, g1_7, by decide +kernel⟩
theorem cX0_start_ok (l : Launch) {w : Wp} {σ : St} {r : Int32} {t0 : Nat} {x1 : Int32} (hW : CW w) (h0 : wK w t0 = 1)  (hf : fX0_start σ t0 x1 = some r) : CM l w yX0_start cX0_start 2 (some .int) (rmz 0 0) [rf w t0, .int x1] σ (Qi w σ r) := CM.of miX0_start.2.2.2 (Nat.le_of_ble_eq_true rfl) (fun X hcl hX => J.sub [0, 1] rfl (wX0_start_b0 hX hW h0  hf))
-- J6_bitCount_0f7a4
set_option maxRecDepth 20000 in
set_option maxHeartbeats 2000000 in
theorem wJ6_bitCount_0f7a4_b41 {X : Cx} {w : Wp} {σ : St} {r : Int32}  {x0 : Int32} (hX : OK X w cJ6_bitCount_0f7a4 1 RJ6 (some .int) (rmz 0 0) (Qi w σ r))    (hf : fJ6_bitCount_0f7a4_b41 x0 = r) : J X w 1 σ 41 [(0, .int x0)] [] := by
  rw [fJ6_bitCount_0f7a4_b41] at hf
  refine r_iload_n hX dJ6_bitCount_0f7a4_41 rfl 0 rfl ?_
  refine r_iload_n hX dJ6_bitCount_0f7a4_42 rfl 0 rfl ?_
  refine r_bipush hX dJ6_bitCount_0f7a4_43 (v := (16 : Int32)) (by decide) ?_
  refine r_iushr hX dJ6_bitCount_0f7a4_45 ?_
  refine r_iadd hX dJ6_bitCount_0f7a4_46 ?_
  refine r_istore_n hX (i := 0) dJ6_bitCount_0f7a4_47 rfl (by decide) rfl ?_
  refine r_iload_n hX dJ6_bitCount_0f7a4_48 rfl 0 rfl ?_
  refine r_bipush hX dJ6_bitCount_0f7a4_49 (v := (63 : Int32)) (by decide) ?_
  refine r_iand hX dJ6_bitCount_0f7a4_51 ?_
  subst hf
  exact r_iret hX dJ6_bitCount_0f7a4_52
set_option maxRecDepth 20000 in
set_option maxHeartbeats 2000000 in
theorem wJ6_bitCount_0f7a4_b24 {X : Cx} {w : Wp} {σ : St} {r : Int32}  {x0 : Int32} (hX : OK X w cJ6_bitCount_0f7a4 1 RJ6 (some .int) (rmz 0 0) (Qi w σ r))    (hf : fJ6_bitCount_0f7a4_b24 x0 = r) : J X w 1 σ 24 [(0, .int x0)] [] := by
  rw [fJ6_bitCount_0f7a4_b24] at hf
  refine r_iload_n hX dJ6_bitCount_0f7a4_24 rfl 0 rfl ?_
  refine r_iload_n hX dJ6_bitCount_0f7a4_25 rfl 0 rfl ?_
  refine r_iconst hX dJ6_bitCount_0f7a4_26 (v := (4 : Int32)) (by decide) ?_
  refine r_iushr hX dJ6_bitCount_0f7a4_27 ?_
  refine r_iadd hX dJ6_bitCount_0f7a4_28 ?_
  refine r_ldcw hX (v := (252645135 : Int32)) g2_224 dJ6_bitCount_0f7a4_29 ?_
  refine r_iand hX dJ6_bitCount_0f7a4_32 ?_
  refine r_istore_n hX (i := 0) dJ6_bitCount_0f7a4_33 rfl (by decide) rfl ?_
  refine r_iload_n hX dJ6_bitCount_0f7a4_34 rfl 0 rfl ?_
  refine r_iload_n hX dJ6_bitCount_0f7a4_35 rfl 0 rfl ?_
  refine r_bipush hX dJ6_bitCount_0f7a4_36 (v := (8 : Int32)) (by decide) ?_
  refine r_iushr hX dJ6_bitCount_0f7a4_38 ?_
  refine r_iadd hX dJ6_bitCount_0f7a4_39 ?_
  refine r_istore_n hX (i := 0) dJ6_bitCount_0f7a4_40 rfl (by decide) rfl ?_
  exact J.sub [0] rfl (wJ6_bitCount_0f7a4_b41 hX    hf)
set_option maxRecDepth 20000 in
set_option maxHeartbeats 2000000 in
theorem wJ6_bitCount_0f7a4_b0 {X : Cx} {w : Wp} {σ : St} {r : Int32}  {x0 : Int32} (hX : OK X w cJ6_bitCount_0f7a4 1 RJ6 (some .int) (rmz 0 0) (Qi w σ r))    (hf : fJ6_bitCount_0f7a4 x0 = r) : J X w 1 σ 0 [(0, .int x0)] [] := by
  rw [fJ6_bitCount_0f7a4] at hf
  refine r_iload_n hX dJ6_bitCount_0f7a4_0 rfl 0 rfl ?_
  refine r_iload_n hX dJ6_bitCount_0f7a4_1 rfl 0 rfl ?_
  refine r_iconst hX dJ6_bitCount_0f7a4_2 (v := (1 : Int32)) (by decide) ?_
  refine r_iushr hX dJ6_bitCount_0f7a4_3 ?_
  refine r_ldcw hX (v := (1431655765 : Int32)) g2_222 dJ6_bitCount_0f7a4_4 ?_
  refine r_iand hX dJ6_bitCount_0f7a4_7 ?_
  refine r_isub hX dJ6_bitCount_0f7a4_8 ?_
  refine r_istore_n hX (i := 0) dJ6_bitCount_0f7a4_9 rfl (by decide) rfl ?_
  refine r_iload_n hX dJ6_bitCount_0f7a4_10 rfl 0 rfl ?_
  refine r_ldcw hX (v := (858993459 : Int32)) g2_223 dJ6_bitCount_0f7a4_11 ?_
  refine r_iand hX dJ6_bitCount_0f7a4_14 ?_
  refine r_iload_n hX dJ6_bitCount_0f7a4_15 rfl 0 rfl ?_
  refine r_iconst hX dJ6_bitCount_0f7a4_16 (v := (2 : Int32)) (by decide) ?_
  refine r_iushr hX dJ6_bitCount_0f7a4_17 ?_
  refine r_ldcw hX (v := (858993459 : Int32)) g2_223 dJ6_bitCount_0f7a4_18 ?_
  refine r_iand hX dJ6_bitCount_0f7a4_21 ?_
  refine r_iadd hX dJ6_bitCount_0f7a4_22 ?_
  refine r_istore_n hX (i := 0) dJ6_bitCount_0f7a4_23 rfl (by decide) rfl ?_
  exact J.sub [0] rfl (wJ6_bitCount_0f7a4_b24 hX    hf)
theorem miJ6_bitCount_0f7a4 : MI yJ6_bitCount_0f7a4 cJ6_bitCount_0f7a4 1 (some .int) 1 := ⟨g2_221, ⟨by decide, by decide, by decide +kernel⟩, g1_12, by decide +kernel⟩
theorem cJ6_bitCount_0f7a4_ok (l : Launch) {w : Wp} {σ : St} {r : Int32} {x0 : Int32}   (hf : fJ6_bitCount_0f7a4 x0 = r) : CM l w yJ6_bitCount_0f7a4 cJ6_bitCount_0f7a4 1 (some .int) (rmz 0 0) [.int x0] σ (Qi w σ r) := CM.of miJ6_bitCount_0f7a4.2.2.2 (Nat.le_of_ble_eq_true rfl) (fun X hcl hX => J.sub [0] rfl (wJ6_bitCount_0f7a4_b0 hX   hf))
-- X4_rodBit
set_option maxRecDepth 20000 in
set_option maxHeartbeats 2000000 in
theorem wX4_rodBit_b0 {X : Cx} {w : Wp} {σ : St} {r : Int32}  {x0 : Int32} (hX : OK X w cX4_rodBit 1 RX4 (some .int) (rmz 0 0) (Qi w σ r))    (hf : fX4_rodBit x0 = r) : J X w 1 σ 0 [(0, .int x0)] [] := by
  rw [fX4_rodBit] at hf
  refine r_iconst hX dX4_rodBit_0 (v := (1 : Int32)) (by decide) ?_
  refine r_iload_n hX dX4_rodBit_1 rfl 0 rfl ?_
  refine r_iconst hX dX4_rodBit_2 (v := (1 : Int32)) (by decide) ?_
  refine r_iadd hX dX4_rodBit_3 ?_
  refine r_ishl hX dX4_rodBit_4 ?_
  subst hf
  exact r_iret hX dX4_rodBit_5
theorem miX4_rodBit : MI yX4_rodBit cX4_rodBit 1 (some .int) 1 := ⟨g2_214, ⟨by decide, by decide, by decide +kernel⟩, g1_2, by decide +kernel⟩
theorem cX4_rodBit_ok (l : Launch) {w : Wp} {σ : St} {r : Int32} {x0 : Int32}   (hf : fX4_rodBit x0 = r) : CM l w yX4_rodBit cX4_rodBit 1 (some .int) (rmz 0 0) [.int x0] σ (Qi w σ r) := CM.of miX4_rodBit.2.2.2 (Nat.le_of_ble_eq_true rfl) (fun X hcl hX => J.sub [0] rfl (wX4_rodBit_b0 hX   hf))
-- X0_handsFor
set_option maxRecDepth 20000 in
set_option maxHeartbeats 2000000 in
theorem wX0_handsFor_b64 {X : Cx} {w : Wp} {σ : St} {r : Int32} {t0 : Nat} {k22 : Int32 → Int32 → Int32 → Option Int32} {x2 : Int32} {x3 : Int32} {x4 : Int32} (hX : OK X w cX0_handsFor 6 RX0 (some .int) (rmz 1 20) (Qi w σ r)) (hW : CW w) (h0 : wK w t0 = 1) (hk22 : ∀ (x2 : Int32) (x3 : Int32) (x4 : Int32), k22 x2 x3 x4 = some r → J X w 6 σ 22 [(0, rf w t0), (2, .int x2), (3, .int x3), (4, .int x4)] [])  (hf : fX0_handsFor_b64 σ t0 k22 x2 x3 x4 = some r) : J X w 6 σ 64 [(0, rf w t0), (2, .int x2), (3, .int x3), (4, .int x4)] [] := by
  rw [fX0_handsFor_b64] at hf
  refine r_iincC hX dX0_handsFor_64 3 rfl (d := (-1 : Int32)) (by decide) (by decide) rfl ?_
  refine r_goto hX dX0_handsFor_67 (tgt := 22) (by decide) ?_
  exact J.sub [1, 2, 3, 0] rfl (hk22 _ _ _  hf)
set_option maxRecDepth 20000 in
set_option maxHeartbeats 2000000 in
theorem wX0_handsFor_L22 {X : Cx} {w : Wp} {σ : St} {r : Int32} {t0 : Nat}  (hX : OK X w cX0_handsFor 6 RX0 (some .int) (rmz 1 20) (Qi w σ r)) (hW : CW w) (h0 : wK w t0 = 1)  : ∀ (n : Nat) (x2 : Int32) (x3 : Int32) (x4 : Int32), fX0_handsFor_L22 σ t0 n x2 x3 x4 = some r → J X w 6 σ 22 [(0, rf w t0), (2, .int x2), (3, .int x3), (4, .int x4)] [] := by
  intro n
  induction n with
  | zero =>
    intro x2 x3 x4 hf
    cases hf
  | succ n ih =>
    intro x2 x3 x4 hf
    rw [fX0_handsFor_L22] at hf
    refine r_iload hX dX0_handsFor_22 3 rfl ?_
    refine r_if_lt hX dX0_handsFor_24 (tgt := 70) (by decide) (fun h => ?_) (fun h => ?_)
    · have hf := ite_t h hf
      refine r_iload_n hX dX0_handsFor_70 rfl 1 rfl ?_
      cases hf
      exact r_iret hX dX0_handsFor_71
    · have hf := ite_f h hf
      refine r_iload hX dX0_handsFor_27 3 rfl ?_
      refine J.calli (fun H locs ls a b c => runS hX miX4_rodBit (cX4_rodBit_ok (xl X)  rfl) g2_225 g2_213 ⟨Nat.le_of_ble_eq_true rfl, Nat.le_of_ble_eq_true rfl⟩ dX0_handsFor_29 rfl (As := [.int x4]) (rest := []) rfl (Nat.le_of_ble_eq_true rfl) a b c) ?_
      refine r_aload_n hX dX0_handsFor_32 rfl 0 rfl ?_
      refine r_get hX cls0 h0 (by decide) (ce1 h0) 4 (by decide) g1_174 rfl dX0_handsFor_33 (rf w (t0 + 1)) rfl ?_
      refine r_iload hX dX0_handsFor_36 3 rfl ?_
      obtain ⟨hi1, hf⟩ := grd_some hf
      refine r_iald hX (CFk1 hW h0) (CFl1 hW h0) hi1 dX0_handsFor_38 ?_
      refine J.calli (fun H locs ls a b c => runS hX miX4_rodBit (cX4_rodBit_ok (xl X)  rfl) g2_225 g2_213 ⟨Nat.le_of_ble_eq_true rfl, Nat.le_of_ble_eq_true rfl⟩ dX0_handsFor_39 rfl (As := [.int (σ.1 (t0 + 1) (ix x4))]) (rest := [.int (fX4_rodBit x4)]) rfl (Nat.le_of_ble_eq_true rfl) a b c) ?_
      refine r_ior hX dX0_handsFor_42 ?_
      refine r_istore hX (i := 5) dX0_handsFor_43 (by decide) rfl ?_
      refine r_iload_n hX dX0_handsFor_45 rfl 3 rfl ?_
      refine r_iload hX dX0_handsFor_46 0 rfl ?_
      refine r_iand hX dX0_handsFor_48 ?_
      refine r_iload hX dX0_handsFor_49 0 rfl ?_
      refine r_icmp_ne hX dX0_handsFor_51 (tgt := 64) (by decide) (fun h => ?_) (fun h => ?_)
      · have hf := ite_f h hf
        exact J.sub [1, 2, 3, 4] rfl (wX0_handsFor_b64 hX hW h0 ih  hf)
      · have hf := ite_t h hf
        refine r_iload_n hX dX0_handsFor_54 rfl 3 rfl ?_
        refine r_iload hX dX0_handsFor_55 0 rfl ?_
        refine r_iconst hX dX0_handsFor_57 (v := (-1 : Int32)) (by decide) ?_
        refine r_ixor hX dX0_handsFor_58 ?_
        refine r_iand hX dX0_handsFor_59 ?_
        refine r_istore_n hX (i := 3) dX0_handsFor_60 rfl (by decide) rfl ?_
        refine r_iincC hX dX0_handsFor_61 3 rfl (d := (-1 : Int32)) (by decide) (by decide) rfl ?_
        exact J.sub [3, 0, 1, 4] rfl (wX0_handsFor_b64 hX hW h0 ih  hf)
set_option maxRecDepth 20000 in
set_option maxHeartbeats 2000000 in
theorem wX0_handsFor_b0 {X : Cx} {w : Wp} {σ : St} {r : Int32} {t0 : Nat}  {x1 : Int32} (hX : OK X w cX0_handsFor 6 RX0 (some .int) (rmz 1 20) (Qi w σ r)) (hW : CW w) (h0 : wK w t0 = 1)   (hf : fX0_handsFor σ t0 x1 = some r) : J X w 6 σ 0 [(0, rf w t0), (1, .int x1)] [] := by
  rw [fX0_handsFor] at hf
  refine r_iload_n hX dX0_handsFor_0 rfl 1 rfl ?_
  refine J.calli (fun H locs ls a b c => runS hX miJ6_bitCount_0f7a4 (cJ6_bitCount_0f7a4_ok (xl X)  rfl) g2_219 g2_220 ⟨Nat.le_of_ble_eq_true rfl, Nat.le_of_ble_eq_true rfl⟩ dX0_handsFor_1 rfl (As := [.int x1]) (rest := []) rfl (Nat.le_of_ble_eq_true rfl) a b c) ?_
  refine r_istore_n hX (i := 2) dX0_handsFor_4 rfl (by decide) rfl ?_
  refine r_iload_n hX dX0_handsFor_5 rfl 2 rfl ?_
  refine r_iconst hX dX0_handsFor_6 (v := (-1 : Int32)) (by decide) ?_
  refine J.calli (fun H locs ls a b c => runS hX miX4_rodBit (cX4_rodBit_ok (xl X)  rfl) g2_225 g2_213 ⟨Nat.le_of_ble_eq_true rfl, Nat.le_of_ble_eq_true rfl⟩ dX0_handsFor_7 rfl (As := [.int (-1 : Int32)]) (rest := [.int x1]) rfl (Nat.le_of_ble_eq_true rfl) a b c) ?_
  refine r_iconst hX dX0_handsFor_10 (v := (-1 : Int32)) (by decide) ?_
  refine r_ixor hX dX0_handsFor_11 ?_
  refine r_iand hX dX0_handsFor_12 ?_
  refine r_istore_n hX (i := 3) dX0_handsFor_13 rfl (by decide) rfl ?_
  refine r_aload_n hX dX0_handsFor_14 rfl 2 rfl ?_
  refine r_get hX cls0 h0 (by decide) (ce1 h0) 7 (by decide) g1_179 rfl dX0_handsFor_15 (.int (σ.1 t0 7)) rfl ?_
  refine r_iconst hX dX0_handsFor_18 (v := (1 : Int32)) (by decide) ?_
  refine r_isub hX dX0_handsFor_19 ?_
  refine r_istore hX (i := 4) dX0_handsFor_20 (by decide) rfl ?_
  exact J.sub [3, 2, 1, 0] rfl (wX0_handsFor_L22 hX hW h0  _ _ _ _  hf)
theorem miX0_handsFor : MI yX0_handsFor cX0_handsFor 6 (some .int) 1 := ⟨g2_218, ⟨by decide, by decide, by decide +kernel⟩, g1_7, by decide +kernel⟩
theorem cX0_handsFor_ok (l : Launch) {w : Wp} {σ : St} {r : Int32} {t0 : Nat} {x1 : Int32} (hW : CW w) (h0 : wK w t0 = 1)  (hf : fX0_handsFor σ t0 x1 = some r) : CM l w yX0_handsFor cX0_handsFor 6 (some .int) (rmz 1 20) [rf w t0, .int x1] σ (Qi w σ r) := CM.of miX0_handsFor.2.2.2 (Nat.le_of_ble_eq_true rfl) (fun X hcl hX => J.sub [0, 1] rfl (wX0_handsFor_b0 hX hW h0  hf))
-- J9_min_7cf53
set_option maxRecDepth 20000 in
set_option maxHeartbeats 2000000 in
theorem wJ9_min_7cf53_b0 {X : Cx} {w : Wp} {σ : St} {r : Int32}  {x0 : Int32} {x1 : Int32} (hX : OK X w cJ9_min_7cf53 2 RJ9 (some .int) (rmz 0 0) (Qi w σ r))    (hf : fJ9_min_7cf53 x0 x1 = r) : J X w 2 σ 0 [(0, .int x0), (1, .int x1)] [] := by
  rw [fJ9_min_7cf53] at hf
  refine r_iload_n hX dJ9_min_7cf53_0 rfl 0 rfl ?_
  refine r_iload_n hX dJ9_min_7cf53_1 rfl 1 rfl ?_
  refine r_icmp_gt hX dJ9_min_7cf53_2 (tgt := 9) (by decide) (fun h => ?_) (fun h => ?_)
  · have hf := ite_t h hf
    refine r_iload_n hX dJ9_min_7cf53_9 rfl 1 rfl ?_
    subst hf
    exact r_iret hX dJ9_min_7cf53_10
  · have hf := ite_f h hf
    refine r_iload_n hX dJ9_min_7cf53_5 rfl 0 rfl ?_
    refine r_goto hX dJ9_min_7cf53_6 (tgt := 10) (by decide) ?_
    subst hf
    exact r_iret hX dJ9_min_7cf53_10
theorem miJ9_min_7cf53 : MI yJ9_min_7cf53 cJ9_min_7cf53 2 (some .int) 2 := ⟨g2_71, ⟨by decide, by decide, by decide +kernel⟩, g1_9, by decide +kernel⟩
theorem cJ9_min_7cf53_ok (l : Launch) {w : Wp} {σ : St} {r : Int32} {x0 : Int32} {x1 : Int32}   (hf : fJ9_min_7cf53 x0 x1 = r) : CM l w yJ9_min_7cf53 cJ9_min_7cf53 2 (some .int) (rmz 0 0) [.int x0, .int x1] σ (Qi w σ r) := CM.of miJ9_min_7cf53.2.2.2 (Nat.le_of_ble_eq_true rfl) (fun X hcl hX => J.sub [0, 1] rfl (wJ9_min_7cf53_b0 hX   hf))
-- X2_stand
set_option maxRecDepth 20000 in
set_option maxHeartbeats 2000000 in
theorem wX2_stand_b56 {X : Cx} {w : Wp} {σ : St} {σ' : St} {t0 : Nat} {t1 : Nat}   (hX : OK X w cX2_stand 3 RX2 none (rmz 1 22) (Qv w σ')) (hW : CW w) (h0 : wK w t0 = 3) (h1 : wK w t1 = 1)   (hf : fX2_stand_b56 t0 t1 σ = some σ') : J X w 3 σ 56 [] [] := by
  rw [fX2_stand_b56] at hf
  cases hf
  exact r_vret hX dX2_stand_56
set_option maxRecDepth 20000 in
set_option maxHeartbeats 2000000 in
theorem wX2_stand_b39 {X : Cx} {w : Wp} {σ : St} {σ' : St} {t0 : Nat} {t1 : Nat}   (hX : OK X w cX2_stand 3 RX2 none (rmz 1 22) (Qv w σ')) (hW : CW w) (h0 : wK w t0 = 3) (h1 : wK w t1 = 1)   (hf : fX2_stand_b39 t0 t1 σ = some σ') : J X w 3 σ 39 [(0, rf w t0), (1, rf w t1)] [] := by
  rw [fX2_stand_b39] at hf
  refine r_aload_n hX dX2_stand_39 rfl 1 rfl ?_
  refine r_get hX cls0 h1 (by decide) (ce1 h1) 6 (by decide) g1_178 rfl dX2_stand_40 (rf w (t1 + 3)) rfl ?_
  refine r_iconst hX dX2_stand_43 (v := (0 : Int32)) (by decide) ?_
  refine r_aload_n hX dX2_stand_44 rfl 0 rfl ?_
  refine r_get hX cls2 h0 (by decide) (ce3 h0) 0 (by decide) g1_64 rfl dX2_stand_45 (rf w (t0 + 1)) rfl ?_
  refine r_iconst hX dX2_stand_48 (v := (0 : Int32)) (by decide) ?_
  refine r_aload_n hX dX2_stand_49 rfl 1 rfl ?_
  refine r_get hX cls0 h1 (by decide) (ce1 h1) 7 (by decide) g1_180 rfl dX2_stand_50 (.int (σ.1 t1 7)) rfl ?_
  obtain ⟨hc1, hf⟩ := cpyG_some hf
  refine r_copy hX g2_72 g2_74 g2_73 g1_10 (CFk3 hW h1) (CFl3 hW h1) (CPk1 hW h0) (CPl1 hW h0) hc1 (by decide) (Nat.le_of_ble_eq_true rfl) dX2_stand_53 ?_
  exact J.sub [] rfl (wX2_stand_b56 hX hW h0 h1   hf)
set_option maxRecDepth 20000 in
set_option maxHeartbeats 2000000 in
theorem wX2_stand_b27 {X : Cx} {w : Wp} {σ : St} {σ' : St} {t0 : Nat} {t1 : Nat}  {x2 : Int32} (hX : OK X w cX2_stand 3 RX2 none (rmz 1 22) (Qv w σ')) (hW : CW w) (h0 : wK w t0 = 3) (h1 : wK w t1 = 1)   (hf : fX2_stand_b27 t0 t1 σ x2 = some σ') : J X w 3 σ 27 [(0, rf w t0), (1, rf w t1), (2, .int x2)] [] := by
  rw [fX2_stand_b27] at hf
  refine r_aload_n hX dX2_stand_27 rfl 0 rfl ?_
  refine r_aload_n hX dX2_stand_28 rfl 1 rfl ?_
  refine r_get hX cls0 h1 (by decide) (ce1 h1) 3 (by decide) g1_173 rfl dX2_stand_29 (.int (σ.1 t1 3)) rfl ?_
  refine r_iload_n hX dX2_stand_32 rfl 2 rfl ?_
  refine J.calli (fun H locs ls a b c => runS hX miJ9_min_7cf53 (cJ9_min_7cf53_ok (xl X)  rfl) g2_69 g2_70 ⟨Nat.le_of_ble_eq_true rfl, Nat.le_of_ble_eq_true rfl⟩ dX2_stand_33 rfl (As := [.int (σ.1 t1 3), .int x2]) (rest := [rf w t0]) rfl (Nat.le_of_ble_eq_true rfl) a b c) ?_
  refine r_putI hX cls2 h0 (by decide) (fun _ _ _ => ce3 h0) 4 (by decide) g1_73 rfl rfl (tyX2_ok 4 (by decide)) (fun _ _ => Nat.le_of_ble_eq_true rfl) dX2_stand_36 (fun _ _ => rfl) ?_
  exact J.sub [0, 1] rfl (wX2_stand_b39 hX hW h0 h1   hf)
set_option maxRecDepth 20000 in
set_option maxHeartbeats 2000000 in
theorem wX2_stand_b20 {X : Cx} {w : Wp} {σ : St} {σ' : St} {t0 : Nat} {t1 : Nat}  {x2 : Int32} (hX : OK X w cX2_stand 3 RX2 none (rmz 1 22) (Qv w σ')) (hW : CW w) (h0 : wK w t0 = 3) (h1 : wK w t1 = 1)   (hf : fX2_stand_b20 t0 t1 σ x2 = some σ') : J X w 3 σ 20 [(0, rf w t0), (1, rf w t1), (2, .int x2)] [] := by
  rw [fX2_stand_b20] at hf
  refine r_aload_n hX dX2_stand_20 rfl 0 rfl ?_
  refine r_get hX cls2 h0 (by decide) (ce3 h0) 3 (by decide) g1_71 rfl dX2_stand_21 (rf w (t0 + 4)) rfl ?_
  refine r_iconst hX dX2_stand_24 (v := (0 : Int32)) (by decide) ?_
  refine r_iconst hX dX2_stand_25 (v := (0 : Int32)) (by decide) ?_
  refine r_iast hX (CPk4 hW h0) (CPl4 hW h0) (vin (by decide)) dX2_stand_26 ?_
  exact J.sub [0, 1, 2] rfl (wX2_stand_b27 hX hW h0 h1   hf)
set_option maxRecDepth 20000 in
set_option maxHeartbeats 2000000 in
theorem wX2_stand_b10 {X : Cx} {w : Wp} {σ : St} {σ' : St} {t0 : Nat} {t1 : Nat}  {x2 : Int32} (hX : OK X w cX2_stand 3 RX2 none (rmz 1 22) (Qv w σ')) (hW : CW w) (h0 : wK w t0 = 3) (h1 : wK w t1 = 1)   (hf : fX2_stand_b10 t0 t1 σ x2 = some σ') : J X w 3 σ 10 [(0, rf w t0), (1, rf w t1), (2, .int x2)] [] := by
  rw [fX2_stand_b10] at hf
  refine r_aload_n hX dX2_stand_10 rfl 0 rfl ?_
  refine r_get hX cls2 h0 (by decide) (ce3 h0) 2 (by decide) g1_68 rfl dX2_stand_11 (rf w (t0 + 3)) rfl ?_
  refine r_iconst hX dX2_stand_14 (v := (0 : Int32)) (by decide) ?_
  refine r_aload_n hX dX2_stand_15 rfl 1 rfl ?_
  refine r_get hX cls0 h1 (by decide) (ce1 h1) 2 (by decide) g1_171 rfl dX2_stand_16 (.int (σ.1 t1 2)) rfl ?_
  refine r_iast hX (CPk3 hW h0) (CPl3 hW h0) (vin (by decide)) dX2_stand_19 ?_
  exact J.sub [0, 1, 2] rfl (wX2_stand_b20 hX hW h0 h1   hf)
set_option maxRecDepth 20000 in
set_option maxHeartbeats 2000000 in
theorem wX2_stand_b0 {X : Cx} {w : Wp} {σ : St} {σ' : St} {t0 : Nat} {t1 : Nat}  {x2 : Int32} (hX : OK X w cX2_stand 3 RX2 none (rmz 1 22) (Qv w σ')) (hW : CW w) (h0 : wK w t0 = 3) (h1 : wK w t1 = 1)   (hf : fX2_stand t0 t1 σ x2 = some σ') : J X w 3 σ 0 [(0, rf w t0), (1, rf w t1), (2, .int x2)] [] := by
  rw [fX2_stand] at hf
  refine r_aload_n hX dX2_stand_0 rfl 0 rfl ?_
  refine r_get hX cls2 h0 (by decide) (ce3 h0) 1 (by decide) g1_65 rfl dX2_stand_1 (rf w (t0 + 2)) rfl ?_
  refine r_iconst hX dX2_stand_4 (v := (0 : Int32)) (by decide) ?_
  refine r_aload_n hX dX2_stand_5 rfl 1 rfl ?_
  refine r_get hX cls0 h1 (by decide) (ce1 h1) 1 (by decide) g1_169 rfl dX2_stand_6 (.int (σ.1 t1 1)) rfl ?_
  refine r_iast hX (CPk2 hW h0) (CPl2 hW h0) (vin (by decide)) dX2_stand_9 ?_
  exact J.sub [0, 1, 2] rfl (wX2_stand_b10 hX hW h0 h1   hf)
theorem miX2_stand : MI yX2_stand cX2_stand 3 none 2 := ⟨g2_68, ⟨by decide, by decide, by decide +kernel⟩, g1_4, by decide +kernel⟩
theorem cX2_stand_ok (l : Launch) {w : Wp} {σ : St} {σ' : St} {t0 : Nat} {t1 : Nat} {x2 : Int32} (hW : CW w) (h0 : wK w t0 = 3) (h1 : wK w t1 = 1)  (hf : fX2_stand t0 t1 σ x2 = some σ') : CM l w yX2_stand cX2_stand 3 none (rmz 1 22) [rf w t0, rf w t1, .int x2] σ (Qv w σ') := CM.of miX2_stand.2.2.2 (Nat.le_of_ble_eq_true rfl) (fun X hcl hX => J.sub [0, 1, 2] rfl (wX2_stand_b0 hX hW h0 h1  hf))
-- J9_max_7cf53
set_option maxRecDepth 20000 in
set_option maxHeartbeats 2000000 in
theorem wJ9_max_7cf53_b0 {X : Cx} {w : Wp} {σ : St} {r : Int32}  {x0 : Int32} {x1 : Int32} (hX : OK X w cJ9_max_7cf53 2 RJ9 (some .int) (rmz 0 0) (Qi w σ r))    (hf : fJ9_max_7cf53 x0 x1 = r) : J X w 2 σ 0 [(0, .int x0), (1, .int x1)] [] := by
  rw [fJ9_max_7cf53] at hf
  refine r_iload_n hX dJ9_max_7cf53_0 rfl 0 rfl ?_
  refine r_iload_n hX dJ9_max_7cf53_1 rfl 1 rfl ?_
  refine r_icmp_lt hX dJ9_max_7cf53_2 (tgt := 9) (by decide) (fun h => ?_) (fun h => ?_)
  · have hf := ite_t h hf
    refine r_iload_n hX dJ9_max_7cf53_9 rfl 1 rfl ?_
    subst hf
    exact r_iret hX dJ9_max_7cf53_10
  · have hf := ite_f h hf
    refine r_iload_n hX dJ9_max_7cf53_5 rfl 0 rfl ?_
    refine r_goto hX dJ9_max_7cf53_6 (tgt := 10) (by decide) ?_
    subst hf
    exact r_iret hX dJ9_max_7cf53_10
theorem miJ9_max_7cf53 : MI yJ9_max_7cf53 cJ9_max_7cf53 2 (some .int) 2 := ⟨g2_81, ⟨by decide, by decide, by decide +kernel⟩, g1_9, by decide +kernel⟩
theorem cJ9_max_7cf53_ok (l : Launch) {w : Wp} {σ : St} {r : Int32} {x0 : Int32} {x1 : Int32}   (hf : fJ9_max_7cf53 x0 x1 = r) : CM l w yJ9_max_7cf53 cJ9_max_7cf53 2 (some .int) (rmz 0 0) [.int x0, .int x1] σ (Qi w σ r) := CM.of miJ9_max_7cf53.2.2.2 (Nat.le_of_ble_eq_true rfl) (fun X hcl hX => J.sub [0, 1] rfl (wJ9_max_7cf53_b0 hX   hf))
-- X2_follow
set_option maxRecDepth 20000 in
set_option maxHeartbeats 2000000 in
theorem wX2_follow_b55 {X : Cx} {w : Wp} {σ : St} {σ' : St} {t0 : Nat} {t1 : Nat}   (hX : OK X w cX2_follow 3 RX2 none (rmz 1 21) (Qv w σ')) (hW : CW w) (h0 : wK w t0 = 3) (h1 : wK w t1 = 2)   (hf : fX2_follow_b55 t0 t1 σ = some σ') : J X w 3 σ 55 [] [] := by
  rw [fX2_follow_b55] at hf
  refine r_goto hX dX2_follow_55 (tgt := 74) (by decide) ?_
  cases hf
  exact r_vret hX dX2_follow_74
set_option maxRecDepth 20000 in
set_option maxHeartbeats 2000000 in
theorem wX2_follow_b34 {X : Cx} {w : Wp} {σ : St} {σ' : St} {t0 : Nat} {t1 : Nat}  {x2 : Int32} (hX : OK X w cX2_follow 3 RX2 none (rmz 1 21) (Qv w σ')) (hW : CW w) (h0 : wK w t0 = 3) (h1 : wK w t1 = 2)   (hf : fX2_follow_b34 t0 t1 σ x2 = some σ') : J X w 3 σ 34 [(0, rf w t0), (1, rf w t1), (2, .int x2)] [] := by
  rw [fX2_follow_b34] at hf
  refine r_aload_n hX dX2_follow_34 rfl 0 rfl ?_
  refine r_iconst hX dX2_follow_35 (v := (1 : Int32)) (by decide) ?_
  refine r_aload_n hX dX2_follow_36 rfl 0 rfl ?_
  refine r_get hX cls2 h0 (by decide) (ce3 h0) 4 (by decide) g1_73 rfl dX2_follow_37 (.int (σ.1 t0 4)) rfl ?_
  refine r_aload_n hX dX2_follow_40 rfl 1 rfl ?_
  refine r_get hX cls1 h1 (by decide) (ce2 h1) 7 (by decide) g2_22 rfl dX2_follow_41 (.int (σ.1 t1 7)) rfl ?_
  refine r_iadd hX dX2_follow_44 ?_
  refine r_iload_n hX dX2_follow_45 rfl 2 rfl ?_
  refine J.calli (fun H locs ls a b c => runS hX miJ9_min_7cf53 (cJ9_min_7cf53_ok (xl X)  rfl) g2_69 g2_70 ⟨Nat.le_of_ble_eq_true rfl, Nat.le_of_ble_eq_true rfl⟩ dX2_follow_46 rfl (As := [.int ((σ.1 t0 4) + (σ.1 t1 7)), .int x2]) (rest := [.int (1 : Int32), rf w t0]) rfl (Nat.le_of_ble_eq_true rfl) a b c) ?_
  refine J.calli (fun H locs ls a b c => runS hX miJ9_max_7cf53 (cJ9_max_7cf53_ok (xl X)  rfl) g2_79 g2_80 ⟨Nat.le_of_ble_eq_true rfl, Nat.le_of_ble_eq_true rfl⟩ dX2_follow_49 rfl (As := [.int (1 : Int32), .int (fJ9_min_7cf53 ((σ.1 t0 4) + (σ.1 t1 7)) x2)]) (rest := [rf w t0]) rfl (Nat.le_of_ble_eq_true rfl) a b c) ?_
  refine r_putI hX cls2 h0 (by decide) (fun _ _ _ => ce3 h0) 4 (by decide) g1_73 rfl rfl (tyX2_ok 4 (by decide)) (fun _ _ => Nat.le_of_ble_eq_true rfl) dX2_follow_52 (fun _ _ => rfl) ?_
  exact J.sub [] rfl (wX2_follow_b55 hX hW h0 h1   hf)
set_option maxRecDepth 20000 in
set_option maxHeartbeats 2000000 in
theorem wX2_follow_b21 {X : Cx} {w : Wp} {σ : St} {σ' : St} {t0 : Nat} {t1 : Nat}  {x2 : Int32} (hX : OK X w cX2_follow 3 RX2 none (rmz 1 21) (Qv w σ')) (hW : CW w) (h0 : wK w t0 = 3) (h1 : wK w t1 = 2)   (hf : fX2_follow_b21 t0 t1 σ x2 = some σ') : J X w 3 σ 21 [(0, rf w t0), (1, rf w t1), (2, .int x2)] [] := by
  rw [fX2_follow_b21] at hf
  refine r_aload_n hX dX2_follow_21 rfl 0 rfl ?_
  refine r_get hX cls2 h0 (by decide) (ce3 h0) 2 (by decide) g1_68 rfl dX2_follow_22 (rf w (t0 + 3)) rfl ?_
  refine r_iconst hX dX2_follow_25 (v := (0 : Int32)) (by decide) ?_
  refine r_dup2 hX dX2_follow_26 rfl rfl ?_
  refine r_iald hX (CPk3 hW h0) (CPl3 hW h0) (vin (by decide)) dX2_follow_27 ?_
  refine r_aload_n hX dX2_follow_28 rfl 1 rfl ?_
  refine r_get hX cls1 h1 (by decide) (ce2 h1) 6 (by decide) g2_19 rfl dX2_follow_29 (.int (σ.1 t1 6)) rfl ?_
  refine r_iadd hX dX2_follow_32 ?_
  refine r_iast hX (CPk3 hW h0) (CPl3 hW h0) (vin (by decide)) dX2_follow_33 ?_
  exact J.sub [0, 1, 2] rfl (wX2_follow_b34 hX hW h0 h1   hf)
set_option maxRecDepth 20000 in
set_option maxHeartbeats 2000000 in
theorem wX2_follow_b0 {X : Cx} {w : Wp} {σ : St} {σ' : St} {t0 : Nat} {t1 : Nat}  {x2 : Int32} (hX : OK X w cX2_follow 3 RX2 none (rmz 1 21) (Qv w σ')) (hW : CW w) (h0 : wK w t0 = 3) (h1 : wK w t1 = 2)   (hf : fX2_follow t0 t1 σ x2 = some σ') : J X w 3 σ 0 [(0, rf w t0), (1, rf w t1), (2, .int x2)] [] := by
  rw [fX2_follow] at hf
  refine r_aload_n hX dX2_follow_0 rfl 1 rfl ?_
  refine r_get hX cls1 h1 (by decide) (ce2 h1) 3 (by decide) g2_10 rfl dX2_follow_1 (.int (σ.1 t1 3)) rfl ?_
  refine r_iconst hX dX2_follow_4 (v := (-1 : Int32)) (by decide) ?_
  refine r_icmp_ne hX dX2_follow_5 (tgt := 58) (by decide) (fun h => ?_) (fun h => ?_)
  · have hf := ite_f h hf
    refine r_aload_n hX dX2_follow_58 rfl 0 rfl ?_
    refine r_get hX cls2 h0 (by decide) (ce3 h0) 0 (by decide) g1_64 rfl dX2_follow_59 (rf w (t0 + 1)) rfl ?_
    refine r_aload_n hX dX2_follow_62 rfl 1 rfl ?_
    refine r_get hX cls1 h1 (by decide) (ce2 h1) 3 (by decide) g2_10 rfl dX2_follow_63 (.int (σ.1 t1 3)) rfl ?_
    refine r_dup2 hX dX2_follow_66 rfl rfl ?_
    obtain ⟨hi2, hf⟩ := grd_some hf
    refine r_iald hX (CPk1 hW h0) (CPl1 hW h0) hi2 dX2_follow_67 ?_
    refine r_aload_n hX dX2_follow_68 rfl 1 rfl ?_
    refine r_get hX cls1 h1 (by decide) (ce2 h1) 4 (by decide) g2_13 rfl dX2_follow_69 (.int (σ.1 t1 4)) rfl ?_
    refine r_iadd hX dX2_follow_72 ?_
    obtain ⟨hi1, hf⟩ := grd_some hf
    refine r_iast hX (CPk1 hW h0) (CPl1 hW h0) hi1 dX2_follow_73 ?_
    cases hf
    exact r_vret hX dX2_follow_74
  · have hf := ite_t h hf
    refine r_aload_n hX dX2_follow_8 rfl 0 rfl ?_
    refine r_get hX cls2 h0 (by decide) (ce3 h0) 1 (by decide) g1_65 rfl dX2_follow_9 (rf w (t0 + 2)) rfl ?_
    refine r_iconst hX dX2_follow_12 (v := (0 : Int32)) (by decide) ?_
    refine r_dup2 hX dX2_follow_13 rfl rfl ?_
    refine r_iald hX (CPk2 hW h0) (CPl2 hW h0) (vin (by decide)) dX2_follow_14 ?_
    refine r_aload_n hX dX2_follow_15 rfl 1 rfl ?_
    refine r_get hX cls1 h1 (by decide) (ce2 h1) 5 (by decide) g2_16 rfl dX2_follow_16 (.int (σ.1 t1 5)) rfl ?_
    refine r_iadd hX dX2_follow_19 ?_
    refine r_iast hX (CPk2 hW h0) (CPl2 hW h0) (vin (by decide)) dX2_follow_20 ?_
    exact J.sub [0, 1, 2] rfl (wX2_follow_b21 hX hW h0 h1   hf)
theorem miX2_follow : MI yX2_follow cX2_follow 3 none 2 := ⟨g2_78, ⟨by decide, by decide, by decide +kernel⟩, g1_4, by decide +kernel⟩
theorem cX2_follow_ok (l : Launch) {w : Wp} {σ : St} {σ' : St} {t0 : Nat} {t1 : Nat} {x2 : Int32} (hW : CW w) (h0 : wK w t0 = 3) (h1 : wK w t1 = 2)  (hf : fX2_follow t0 t1 σ x2 = some σ') : CM l w yX2_follow cX2_follow 3 none (rmz 1 21) [rf w t0, rf w t1, .int x2] σ (Qv w σ') := CM.of miX2_follow.2.2.2 (Nat.le_of_ble_eq_true rfl) (fun X hcl hX => J.sub [0, 1, 2] rfl (wX2_follow_b0 hX hW h0 h1  hf))
-- J9_floorMod_7cf53
set_option maxRecDepth 20000 in
set_option maxHeartbeats 2000000 in
theorem wJ9_floorMod_7cf53_b0 {X : Cx} {w : Wp} {σ : St} {r : Int32}  {x0 : Int32} {x1 : Int32} (hX : OK X w cJ9_floorMod_7cf53 3 RJ9 (some .int) (rmz 0 0) (Qi w σ r))    (hf : fJ9_floorMod_7cf53 x0 x1 = some r) : J X w 3 σ 0 [(0, .int x0), (1, .int x1)] [] := by
  rw [fJ9_floorMod_7cf53] at hf
  refine r_iload_n hX dJ9_floorMod_7cf53_0 rfl 0 rfl ?_
  refine r_iload_n hX dJ9_floorMod_7cf53_1 rfl 1 rfl ?_
  obtain ⟨hd1, hf⟩ := dvI_some hf
  refine r_irem hX dJ9_floorMod_7cf53_2 hd1 ?_
  refine r_istore_n hX (i := 2) dJ9_floorMod_7cf53_3 rfl (by decide) rfl ?_
  refine r_iload_n hX dJ9_floorMod_7cf53_4 rfl 1 rfl ?_
  refine r_iload_n hX dJ9_floorMod_7cf53_5 rfl 2 rfl ?_
  refine r_ixor hX dJ9_floorMod_7cf53_6 ?_
  refine r_if_ge hX dJ9_floorMod_7cf53_7 (tgt := 18) (by decide) (fun h => ?_) (fun h => ?_)
  · have hf := ite_t h hf
    refine r_iload_n hX dJ9_floorMod_7cf53_18 rfl 0 rfl ?_
    cases hf
    exact r_iret hX dJ9_floorMod_7cf53_19
  · have hf := ite_f h hf
    refine r_iload_n hX dJ9_floorMod_7cf53_10 rfl 0 rfl ?_
    refine r_if_eq hX dJ9_floorMod_7cf53_11 (tgt := 18) (by decide) (fun h => ?_) (fun h => ?_)
    · have hf := ite_t h hf
      refine r_iload_n hX dJ9_floorMod_7cf53_18 rfl 0 rfl ?_
      cases hf
      exact r_iret hX dJ9_floorMod_7cf53_19
    · have hf := ite_f h hf
      refine r_iload_n hX dJ9_floorMod_7cf53_14 rfl 0 rfl ?_
      refine r_iload_n hX dJ9_floorMod_7cf53_15 rfl 2 rfl ?_
      refine r_iadd hX dJ9_floorMod_7cf53_16 ?_
      cases hf
      exact r_iret hX dJ9_floorMod_7cf53_17
theorem miJ9_floorMod_7cf53 : MI yJ9_floorMod_7cf53 cJ9_floorMod_7cf53 3 (some .int) 2 := ⟨g2_92, ⟨by decide, by decide, by decide +kernel⟩, g1_9, by decide +kernel⟩
theorem cJ9_floorMod_7cf53_ok (l : Launch) {w : Wp} {σ : St} {r : Int32} {x0 : Int32} {x1 : Int32}   (hf : fJ9_floorMod_7cf53 x0 x1 = some r) : CM l w yJ9_floorMod_7cf53 cJ9_floorMod_7cf53 3 (some .int) (rmz 0 0) [.int x0, .int x1] σ (Qi w σ r) := CM.of miJ9_floorMod_7cf53.2.2.2 (Nat.le_of_ble_eq_true rfl) (fun X hcl hX => J.sub [0, 1] rfl (wJ9_floorMod_7cf53_b0 hX   hf))
-- X2_layPoints
set_option maxRecDepth 20000 in
set_option maxHeartbeats 2000000 in
theorem wX2_layPoints_b104 {X : Cx} {w : Wp} {σ : St} {σ' : St} {t0 : Nat} {t1 : Nat} {k2 : St → Int32 → Option St} {x2 : Int32} (hX : OK X w cX2_layPoints 6 RX2 none (rmz 1 22) (Qv w σ')) (hW : CW w) (h0 : wK w t0 = 3) (h1 : wK w t1 = 1) (hk2 : ∀ (σ : St) (x2 : Int32), k2 σ x2 = some σ' → J X w 6 σ 2 [(0, rf w t0), (1, rf w t1), (2, .int x2)] [])  (hf : fX2_layPoints_b104 t0 t1 k2 σ x2 = some σ') : J X w 6 σ 104 [(0, rf w t0), (1, rf w t1), (2, .int x2)] [] := by
  rw [fX2_layPoints_b104] at hf
  refine r_iincC hX dX2_layPoints_104 2 rfl (d := (1 : Int32)) (by decide) (by decide) rfl ?_
  refine r_goto hX dX2_layPoints_107 (tgt := 2) (by decide) ?_
  exact J.sub [1, 2, 0] rfl (hk2 _ _  hf)
set_option maxRecDepth 20000 in
set_option maxHeartbeats 2000000 in
theorem wX2_layPoints_b77 {X : Cx} {w : Wp} {σ : St} {σ' : St} {t0 : Nat} {t1 : Nat} {k2 : St → Int32 → Option St} {x2 : Int32} {x3 : Int32} {x4 : Int32} {x5 : Int32} (hX : OK X w cX2_layPoints 6 RX2 none (rmz 1 22) (Qv w σ')) (hW : CW w) (h0 : wK w t0 = 3) (h1 : wK w t1 = 1) (hk2 : ∀ (σ : St) (x2 : Int32), k2 σ x2 = some σ' → J X w 6 σ 2 [(0, rf w t0), (1, rf w t1), (2, .int x2)] [])  (hf : fX2_layPoints_b77 t0 t1 k2 σ x2 x3 x4 x5 = some σ') : J X w 6 σ 77 [(0, rf w t0), (1, rf w t1), (2, .int x2), (3, .int x3), (4, .int x4), (5, .int x5)] [] := by
  rw [fX2_layPoints_b77] at hf
  refine r_aload_n hX dX2_layPoints_77 rfl 0 rfl ?_
  refine r_get hX cls2 h0 (by decide) (ce3 h0) 2 (by decide) g1_68 rfl dX2_layPoints_78 (rf w (t0 + 3)) rfl ?_
  refine r_iload hX dX2_layPoints_81 4 rfl ?_
  refine r_aload_n hX dX2_layPoints_83 rfl 0 rfl ?_
  refine r_get hX cls2 h0 (by decide) (ce3 h0) 2 (by decide) g1_68 rfl dX2_layPoints_84 (rf w (t0 + 3)) rfl ?_
  refine r_iload_n hX dX2_layPoints_87 rfl 3 rfl ?_
  obtain ⟨hi5, hf⟩ := grd_some hf
  refine r_iald hX (CPk3 hW h0) (CPl3 hW h0) hi5 dX2_layPoints_88 ?_
  refine r_aload_n hX dX2_layPoints_89 rfl 1 rfl ?_
  refine r_get hX cls0 h1 (by decide) (ce1 h1) 5 (by decide) g1_176 rfl dX2_layPoints_90 (rf w (t1 + 2)) rfl ?_
  refine r_iload_n hX dX2_layPoints_93 rfl 2 rfl ?_
  obtain ⟨hi4, hf⟩ := grd_some hf
  refine r_iald hX (CFk2 hW h1) (CFl2 hW h1) hi4 dX2_layPoints_94 ?_
  refine r_stepY hX dX2_layPoints_95 (fun a1 ha1 => ?_)
  refine r_iload hX dX2_layPoints_98 5 rfl ?_
  obtain ⟨hi3, hf⟩ := grd_some hf
  refine r_tald hX ha1 hi3 dX2_layPoints_100 ?_
  refine r_imul hX dX2_layPoints_101 ?_
  refine r_iadd hX dX2_layPoints_102 ?_
  obtain ⟨hi2, hf⟩ := grd_some hf
  refine r_iast hX (CPk3 hW h0) (CPl3 hW h0) hi2 dX2_layPoints_103 ?_
  exact J.sub [0, 1, 2] rfl (wX2_layPoints_b104 hX hW h0 h1 hk2  hf)
set_option maxRecDepth 20000 in
set_option maxHeartbeats 2000000 in
theorem wX2_layPoints_b50 {X : Cx} {w : Wp} {σ : St} {σ' : St} {t0 : Nat} {t1 : Nat} {k2 : St → Int32 → Option St} {x2 : Int32} {x3 : Int32} {x4 : Int32} {x5 : Int32} (hX : OK X w cX2_layPoints 6 RX2 none (rmz 1 22) (Qv w σ')) (hW : CW w) (h0 : wK w t0 = 3) (h1 : wK w t1 = 1) (hk2 : ∀ (σ : St) (x2 : Int32), k2 σ x2 = some σ' → J X w 6 σ 2 [(0, rf w t0), (1, rf w t1), (2, .int x2)] [])  (hf : fX2_layPoints_b50 t0 t1 k2 σ x2 x3 x4 x5 = some σ') : J X w 6 σ 50 [(0, rf w t0), (1, rf w t1), (2, .int x2), (3, .int x3), (4, .int x4), (5, .int x5)] [] := by
  rw [fX2_layPoints_b50] at hf
  refine r_aload_n hX dX2_layPoints_50 rfl 0 rfl ?_
  refine r_get hX cls2 h0 (by decide) (ce3 h0) 1 (by decide) g1_65 rfl dX2_layPoints_51 (rf w (t0 + 2)) rfl ?_
  refine r_iload hX dX2_layPoints_54 4 rfl ?_
  refine r_aload_n hX dX2_layPoints_56 rfl 0 rfl ?_
  refine r_get hX cls2 h0 (by decide) (ce3 h0) 1 (by decide) g1_65 rfl dX2_layPoints_57 (rf w (t0 + 2)) rfl ?_
  refine r_iload_n hX dX2_layPoints_60 rfl 3 rfl ?_
  obtain ⟨hi5, hf⟩ := grd_some hf
  refine r_iald hX (CPk2 hW h0) (CPl2 hW h0) hi5 dX2_layPoints_61 ?_
  refine r_aload_n hX dX2_layPoints_62 rfl 1 rfl ?_
  refine r_get hX cls0 h1 (by decide) (ce1 h1) 5 (by decide) g1_176 rfl dX2_layPoints_63 (rf w (t1 + 2)) rfl ?_
  refine r_iload_n hX dX2_layPoints_66 rfl 2 rfl ?_
  obtain ⟨hi4, hf⟩ := grd_some hf
  refine r_iald hX (CFk2 hW h1) (CFl2 hW h1) hi4 dX2_layPoints_67 ?_
  refine r_stepX hX dX2_layPoints_68 (fun a1 ha1 => ?_)
  refine r_iload hX dX2_layPoints_71 5 rfl ?_
  obtain ⟨hi3, hf⟩ := grd_some hf
  refine r_tald hX ha1 hi3 dX2_layPoints_73 ?_
  refine r_imul hX dX2_layPoints_74 ?_
  refine r_iadd hX dX2_layPoints_75 ?_
  obtain ⟨hi2, hf⟩ := grd_some hf
  refine r_iast hX (CPk2 hW h0) (CPl2 hW h0) hi2 dX2_layPoints_76 ?_
  exact J.sub [0, 1, 2, 3, 4, 5] rfl (wX2_layPoints_b77 hX hW h0 h1 hk2  hf)
set_option maxRecDepth 20000 in
set_option maxHeartbeats 2000000 in
theorem wX2_layPoints_L2 {X : Cx} {w : Wp} {σ' : St} {t0 : Nat} {t1 : Nat}  (hX : OK X w cX2_layPoints 6 RX2 none (rmz 1 22) (Qv w σ')) (hW : CW w) (h0 : wK w t0 = 3) (h1 : wK w t1 = 1)  : ∀ (n : Nat) (σ : St) (x2 : Int32), fX2_layPoints_L2 t0 t1 n σ x2 = some σ' → J X w 6 σ 2 [(0, rf w t0), (1, rf w t1), (2, .int x2)] [] := by
  intro n
  induction n with
  | zero =>
    intro σ x2 hf
    cases hf
  | succ n ih =>
    intro σ x2 hf
    rw [fX2_layPoints_L2] at hf
    refine r_iload_n hX dX2_layPoints_2 rfl 2 rfl ?_
    refine r_aload_n hX dX2_layPoints_3 rfl 1 rfl ?_
    refine r_get hX cls0 h1 (by decide) (ce1 h1) 7 (by decide) g1_180 rfl dX2_layPoints_4 (.int (σ.1 t1 7)) rfl ?_
    refine r_icmp_ge hX dX2_layPoints_7 (tgt := 110) (by decide) (fun h => ?_) (fun h => ?_)
    · have hf := ite_t h hf
      cases hf
      exact r_vret hX dX2_layPoints_110
    · have hf := ite_f h hf
      refine r_aload_n hX dX2_layPoints_10 rfl 1 rfl ?_
      refine r_iload_n hX dX2_layPoints_11 rfl 2 rfl ?_
      obtain ⟨r1, hr2, hf⟩ := bd_s hf
      refine J.calli (fun H locs ls a b c => runV hX miX0_start (As := [.int x2]) (cX0_start_ok (xl X) hW h1 hr2) g2_86 g2_87 g2_88 cls0 h1 (by decide) (ce1 h1) ⟨Nat.le_of_ble_eq_true rfl, Nat.le_of_ble_eq_true rfl⟩ dX2_layPoints_12 rfl (rest := []) rfl (Nat.le_of_ble_eq_true rfl) a b c) ?_
      refine r_istore_n hX (i := 3) dX2_layPoints_15 rfl (by decide) rfl ?_
      refine r_iload_n hX dX2_layPoints_16 rfl 3 rfl ?_
      refine r_iconst hX dX2_layPoints_17 (v := (1 : Int32)) (by decide) ?_
      refine r_iadd hX dX2_layPoints_18 ?_
      refine r_istore hX (i := 4) dX2_layPoints_19 (by decide) rfl ?_
      refine r_aload_n hX dX2_layPoints_21 rfl 2 rfl ?_
      refine r_get hX cls2 h0 (by decide) (ce3 h0) 3 (by decide) g1_71 rfl dX2_layPoints_22 (rf w (t0 + 4)) rfl ?_
      refine r_iload_n hX dX2_layPoints_25 rfl 1 rfl ?_
      obtain ⟨hi7, hf⟩ := grd_some hf
      refine r_iald hX (CPk4 hW h0) (CPl4 hW h0) hi7 dX2_layPoints_26 ?_
      refine r_aload_n hX dX2_layPoints_27 rfl 2 rfl ?_
      refine r_get hX cls2 h0 (by decide) (ce3 h0) 0 (by decide) g1_64 rfl dX2_layPoints_28 (rf w (t0 + 1)) rfl ?_
      refine r_iload_n hX dX2_layPoints_31 rfl 4 rfl ?_
      obtain ⟨hi6, hf⟩ := grd_some hf
      refine r_iald hX (CPk1 hW h0) (CPl1 hW h0) hi6 dX2_layPoints_32 ?_
      refine r_iadd hX dX2_layPoints_33 ?_
      refine r_bipush hX dX2_layPoints_34 (v := (8 : Int32)) (by decide) ?_
      obtain ⟨r3, hr4, hf⟩ := bd_s hf
      refine J.calli (fun H locs ls a b c => runS hX miJ9_floorMod_7cf53 (cJ9_floorMod_7cf53_ok (xl X)  hr4) g2_90 g2_91 ⟨Nat.le_of_ble_eq_true rfl, Nat.le_of_ble_eq_true rfl⟩ dX2_layPoints_36 rfl (As := [.int ((σ.1 (t0 + 4) (ix r1)) + (σ.1 (t0 + 1) (ix x2))), .int (8 : Int32)]) (rest := []) rfl (Nat.le_of_ble_eq_true rfl) a b c) ?_
      refine r_istore hX (i := 5) dX2_layPoints_39 (by decide) rfl ?_
      refine r_aload_n hX dX2_layPoints_41 rfl 3 rfl ?_
      refine r_get hX cls2 h0 (by decide) (ce3 h0) 3 (by decide) g1_71 rfl dX2_layPoints_42 (rf w (t0 + 4)) rfl ?_
      refine r_iload hX dX2_layPoints_45 1 rfl ?_
      refine r_iload hX dX2_layPoints_47 0 rfl ?_
      obtain ⟨hi5, hf⟩ := grd_some hf
      refine r_iast hX (CPk4 hW h0) (CPl4 hW h0) hi5 dX2_layPoints_49 ?_
      exact J.sub [3, 4, 5, 2, 1, 0] rfl (wX2_layPoints_b50 hX hW h0 h1 ih  hf)
set_option maxRecDepth 20000 in
set_option maxHeartbeats 2000000 in
theorem wX2_layPoints_b0 {X : Cx} {w : Wp} {σ : St} {σ' : St} {t0 : Nat} {t1 : Nat}   (hX : OK X w cX2_layPoints 6 RX2 none (rmz 1 22) (Qv w σ')) (hW : CW w) (h0 : wK w t0 = 3) (h1 : wK w t1 = 1)   (hf : fX2_layPoints t0 t1 σ = some σ') : J X w 6 σ 0 [(0, rf w t0), (1, rf w t1)] [] := by
  rw [fX2_layPoints] at hf
  refine r_iconst hX dX2_layPoints_0 (v := (0 : Int32)) (by decide) ?_
  refine r_istore_n hX (i := 2) dX2_layPoints_1 rfl (by decide) rfl ?_
  exact J.sub [1, 2, 0] rfl (wX2_layPoints_L2 hX hW h0 h1  _ _ _  hf)
theorem miX2_layPoints : MI yX2_layPoints cX2_layPoints 6 none 1 := ⟨g2_85, ⟨by decide, by decide, by decide +kernel⟩, g1_4, by decide +kernel⟩
theorem cX2_layPoints_ok (l : Launch) {w : Wp} {σ : St} {σ' : St} {t0 : Nat} {t1 : Nat}  (hW : CW w) (h0 : wK w t0 = 3) (h1 : wK w t1 = 1)  (hf : fX2_layPoints t0 t1 σ = some σ') : CM l w yX2_layPoints cX2_layPoints 6 none (rmz 1 22) [rf w t0, rf w t1] σ (Qv w σ') := CM.of miX2_layPoints.2.2.2 (Nat.le_of_ble_eq_true rfl) (fun X hcl hX => J.sub [0, 1] rfl (wX2_layPoints_b0 hX hW h0 h1  hf))
-- X2_layBox
set_option maxRecDepth 20000 in
set_option maxHeartbeats 2000000 in
theorem wX2_layBox_b115 {X : Cx} {w : Wp} {σ : St} {σ' : St} {t0 : Nat} {k42 : St → Int32 → Int32 → Option St} {x1 : Int32} {x2 : Int32} (hX : OK X w cX2_layBox 3 RX2 none (rmz 1 21) (Qv w σ')) (hW : CW w) (h0 : wK w t0 = 3) (hk42 : ∀ (σ : St) (x1 : Int32) (x2 : Int32), k42 σ x1 x2 = some σ' → J X w 3 σ 42 [(0, rf w t0), (1, .int x1), (2, .int x2)] [])  (hf : fX2_layBox_b115 t0 k42 σ x1 x2 = some σ') : J X w 3 σ 115 [(0, rf w t0), (1, .int x1), (2, .int x2)] [] := by
  rw [fX2_layBox_b115] at hf
  refine r_iincC hX dX2_layBox_115 2 rfl (d := (1 : Int32)) (by decide) (by decide) rfl ?_
  refine r_goto hX dX2_layBox_118 (tgt := 42) (by decide) ?_
  exact J.sub [1, 2, 0] rfl (hk42 _ _ _  hf)
set_option maxRecDepth 20000 in
set_option maxHeartbeats 2000000 in
theorem wX2_layBox_b98 {X : Cx} {w : Wp} {σ : St} {σ' : St} {t0 : Nat} {k42 : St → Int32 → Int32 → Option St} {x1 : Int32} {x2 : Int32} (hX : OK X w cX2_layBox 3 RX2 none (rmz 1 21) (Qv w σ')) (hW : CW w) (h0 : wK w t0 = 3) (hk42 : ∀ (σ : St) (x1 : Int32) (x2 : Int32), k42 σ x1 x2 = some σ' → J X w 3 σ 42 [(0, rf w t0), (1, .int x1), (2, .int x2)] [])  (hf : fX2_layBox_b98 t0 k42 σ x1 x2 = some σ') : J X w 3 σ 98 [(0, rf w t0), (1, .int x1), (2, .int x2)] [] := by
  rw [fX2_layBox_b98] at hf
  refine r_aload_n hX dX2_layBox_98 rfl 0 rfl ?_
  refine r_aload_n hX dX2_layBox_99 rfl 0 rfl ?_
  refine r_get hX cls2 h0 (by decide) (ce3 h0) 8 (by decide) g1_81 rfl dX2_layBox_100 (.int (σ.1 t0 8)) rfl ?_
  refine r_aload_n hX dX2_layBox_103 rfl 0 rfl ?_
  refine r_get hX cls2 h0 (by decide) (ce3 h0) 2 (by decide) g1_68 rfl dX2_layBox_104 (rf w (t0 + 3)) rfl ?_
  refine r_iload_n hX dX2_layBox_107 rfl 2 rfl ?_
  obtain ⟨hi1, hf⟩ := grd_some hf
  refine r_iald hX (CPk3 hW h0) (CPl3 hW h0) hi1 dX2_layBox_108 ?_
  refine J.calli (fun H locs ls a b c => runS hX miJ9_max_7cf53 (cJ9_max_7cf53_ok (xl X)  rfl) g2_79 g2_80 ⟨Nat.le_of_ble_eq_true rfl, Nat.le_of_ble_eq_true rfl⟩ dX2_layBox_109 rfl (As := [.int (σ.1 t0 8), .int (σ.1 (t0 + 3) (ix x2))]) (rest := [rf w t0]) rfl (Nat.le_of_ble_eq_true rfl) a b c) ?_
  refine r_putI hX cls2 h0 (by decide) (fun _ _ _ => ce3 h0) 8 (by decide) g1_81 rfl rfl (tyX2_ok 8 (by decide)) (fun _ _ => Nat.le_of_ble_eq_true rfl) dX2_layBox_112 (fun _ _ => rfl) ?_
  exact J.sub [0, 1, 2] rfl (wX2_layBox_b115 hX hW h0 hk42  hf)
set_option maxRecDepth 20000 in
set_option maxHeartbeats 2000000 in
theorem wX2_layBox_b81 {X : Cx} {w : Wp} {σ : St} {σ' : St} {t0 : Nat} {k42 : St → Int32 → Int32 → Option St} {x1 : Int32} {x2 : Int32} (hX : OK X w cX2_layBox 3 RX2 none (rmz 1 21) (Qv w σ')) (hW : CW w) (h0 : wK w t0 = 3) (hk42 : ∀ (σ : St) (x1 : Int32) (x2 : Int32), k42 σ x1 x2 = some σ' → J X w 3 σ 42 [(0, rf w t0), (1, .int x1), (2, .int x2)] [])  (hf : fX2_layBox_b81 t0 k42 σ x1 x2 = some σ') : J X w 3 σ 81 [(0, rf w t0), (1, .int x1), (2, .int x2)] [] := by
  rw [fX2_layBox_b81] at hf
  refine r_aload_n hX dX2_layBox_81 rfl 0 rfl ?_
  refine r_aload_n hX dX2_layBox_82 rfl 0 rfl ?_
  refine r_get hX cls2 h0 (by decide) (ce3 h0) 7 (by decide) g1_79 rfl dX2_layBox_83 (.int (σ.1 t0 7)) rfl ?_
  refine r_aload_n hX dX2_layBox_86 rfl 0 rfl ?_
  refine r_get hX cls2 h0 (by decide) (ce3 h0) 2 (by decide) g1_68 rfl dX2_layBox_87 (rf w (t0 + 3)) rfl ?_
  refine r_iload_n hX dX2_layBox_90 rfl 2 rfl ?_
  obtain ⟨hi1, hf⟩ := grd_some hf
  refine r_iald hX (CPk3 hW h0) (CPl3 hW h0) hi1 dX2_layBox_91 ?_
  refine J.calli (fun H locs ls a b c => runS hX miJ9_min_7cf53 (cJ9_min_7cf53_ok (xl X)  rfl) g2_69 g2_70 ⟨Nat.le_of_ble_eq_true rfl, Nat.le_of_ble_eq_true rfl⟩ dX2_layBox_92 rfl (As := [.int (σ.1 t0 7), .int (σ.1 (t0 + 3) (ix x2))]) (rest := [rf w t0]) rfl (Nat.le_of_ble_eq_true rfl) a b c) ?_
  refine r_putI hX cls2 h0 (by decide) (fun _ _ _ => ce3 h0) 7 (by decide) g1_79 rfl rfl (tyX2_ok 7 (by decide)) (fun _ _ => Nat.le_of_ble_eq_true rfl) dX2_layBox_95 (fun _ _ => rfl) ?_
  exact J.sub [0, 1, 2] rfl (wX2_layBox_b98 hX hW h0 hk42  hf)
set_option maxRecDepth 20000 in
set_option maxHeartbeats 2000000 in
theorem wX2_layBox_b64 {X : Cx} {w : Wp} {σ : St} {σ' : St} {t0 : Nat} {k42 : St → Int32 → Int32 → Option St} {x1 : Int32} {x2 : Int32} (hX : OK X w cX2_layBox 3 RX2 none (rmz 1 21) (Qv w σ')) (hW : CW w) (h0 : wK w t0 = 3) (hk42 : ∀ (σ : St) (x1 : Int32) (x2 : Int32), k42 σ x1 x2 = some σ' → J X w 3 σ 42 [(0, rf w t0), (1, .int x1), (2, .int x2)] [])  (hf : fX2_layBox_b64 t0 k42 σ x1 x2 = some σ') : J X w 3 σ 64 [(0, rf w t0), (1, .int x1), (2, .int x2)] [] := by
  rw [fX2_layBox_b64] at hf
  refine r_aload_n hX dX2_layBox_64 rfl 0 rfl ?_
  refine r_aload_n hX dX2_layBox_65 rfl 0 rfl ?_
  refine r_get hX cls2 h0 (by decide) (ce3 h0) 6 (by decide) g1_77 rfl dX2_layBox_66 (.int (σ.1 t0 6)) rfl ?_
  refine r_aload_n hX dX2_layBox_69 rfl 0 rfl ?_
  refine r_get hX cls2 h0 (by decide) (ce3 h0) 1 (by decide) g1_65 rfl dX2_layBox_70 (rf w (t0 + 2)) rfl ?_
  refine r_iload_n hX dX2_layBox_73 rfl 2 rfl ?_
  obtain ⟨hi1, hf⟩ := grd_some hf
  refine r_iald hX (CPk2 hW h0) (CPl2 hW h0) hi1 dX2_layBox_74 ?_
  refine J.calli (fun H locs ls a b c => runS hX miJ9_max_7cf53 (cJ9_max_7cf53_ok (xl X)  rfl) g2_79 g2_80 ⟨Nat.le_of_ble_eq_true rfl, Nat.le_of_ble_eq_true rfl⟩ dX2_layBox_75 rfl (As := [.int (σ.1 t0 6), .int (σ.1 (t0 + 2) (ix x2))]) (rest := [rf w t0]) rfl (Nat.le_of_ble_eq_true rfl) a b c) ?_
  refine r_putI hX cls2 h0 (by decide) (fun _ _ _ => ce3 h0) 6 (by decide) g1_77 rfl rfl (tyX2_ok 6 (by decide)) (fun _ _ => Nat.le_of_ble_eq_true rfl) dX2_layBox_78 (fun _ _ => rfl) ?_
  exact J.sub [0, 1, 2] rfl (wX2_layBox_b81 hX hW h0 hk42  hf)
set_option maxRecDepth 20000 in
set_option maxHeartbeats 2000000 in
theorem wX2_layBox_L42 {X : Cx} {w : Wp} {σ' : St} {t0 : Nat}  (hX : OK X w cX2_layBox 3 RX2 none (rmz 1 21) (Qv w σ')) (hW : CW w) (h0 : wK w t0 = 3)  : ∀ (n : Nat) (σ : St) (x1 : Int32) (x2 : Int32), fX2_layBox_L42 t0 n σ x1 x2 = some σ' → J X w 3 σ 42 [(0, rf w t0), (1, .int x1), (2, .int x2)] [] := by
  intro n
  induction n with
  | zero =>
    intro σ x1 x2 hf
    cases hf
  | succ n ih =>
    intro σ x1 x2 hf
    rw [fX2_layBox_L42] at hf
    refine r_iload_n hX dX2_layBox_42 rfl 2 rfl ?_
    refine r_iload_n hX dX2_layBox_43 rfl 1 rfl ?_
    refine r_icmp_gt hX dX2_layBox_44 (tgt := 121) (by decide) (fun h => ?_) (fun h => ?_)
    · have hf := ite_t h hf
      cases hf
      exact r_vret hX dX2_layBox_121
    · have hf := ite_f h hf
      refine r_aload_n hX dX2_layBox_47 rfl 0 rfl ?_
      refine r_aload_n hX dX2_layBox_48 rfl 0 rfl ?_
      refine r_get hX cls2 h0 (by decide) (ce3 h0) 5 (by decide) g1_75 rfl dX2_layBox_49 (.int (σ.1 t0 5)) rfl ?_
      refine r_aload_n hX dX2_layBox_52 rfl 0 rfl ?_
      refine r_get hX cls2 h0 (by decide) (ce3 h0) 1 (by decide) g1_65 rfl dX2_layBox_53 (rf w (t0 + 2)) rfl ?_
      refine r_iload_n hX dX2_layBox_56 rfl 2 rfl ?_
      obtain ⟨hi1, hf⟩ := grd_some hf
      refine r_iald hX (CPk2 hW h0) (CPl2 hW h0) hi1 dX2_layBox_57 ?_
      refine J.calli (fun H locs ls a b c => runS hX miJ9_min_7cf53 (cJ9_min_7cf53_ok (xl X)  rfl) g2_69 g2_70 ⟨Nat.le_of_ble_eq_true rfl, Nat.le_of_ble_eq_true rfl⟩ dX2_layBox_58 rfl (As := [.int (σ.1 t0 5), .int (σ.1 (t0 + 2) (ix x2))]) (rest := [rf w t0]) rfl (Nat.le_of_ble_eq_true rfl) a b c) ?_
      refine r_putI hX cls2 h0 (by decide) (fun _ _ _ => ce3 h0) 5 (by decide) g1_75 rfl rfl (tyX2_ok 5 (by decide)) (fun _ _ => Nat.le_of_ble_eq_true rfl) dX2_layBox_61 (fun _ _ => rfl) ?_
      exact J.sub [0, 1, 2] rfl (wX2_layBox_b64 hX hW h0 ih  hf)
set_option maxRecDepth 20000 in
set_option maxHeartbeats 2000000 in
theorem wX2_layBox_b40 {X : Cx} {w : Wp} {σ : St} {σ' : St} {t0 : Nat}  {x1 : Int32} (hX : OK X w cX2_layBox 3 RX2 none (rmz 1 21) (Qv w σ')) (hW : CW w) (h0 : wK w t0 = 3)   (hf : fX2_layBox_b40 t0 σ x1 = some σ') : J X w 3 σ 40 [(0, rf w t0), (1, .int x1)] [] := by
  rw [fX2_layBox_b40] at hf
  refine r_iconst hX dX2_layBox_40 (v := (1 : Int32)) (by decide) ?_
  refine r_istore_n hX (i := 2) dX2_layBox_41 rfl (by decide) rfl ?_
  exact J.sub [1, 2, 0] rfl (wX2_layBox_L42 hX hW h0  _ _ _ _  hf)
set_option maxRecDepth 20000 in
set_option maxHeartbeats 2000000 in
theorem wX2_layBox_b30 {X : Cx} {w : Wp} {σ : St} {σ' : St} {t0 : Nat}  {x1 : Int32} (hX : OK X w cX2_layBox 3 RX2 none (rmz 1 21) (Qv w σ')) (hW : CW w) (h0 : wK w t0 = 3)   (hf : fX2_layBox_b30 t0 σ x1 = some σ') : J X w 3 σ 30 [(0, rf w t0), (1, .int x1)] [] := by
  rw [fX2_layBox_b30] at hf
  refine r_aload_n hX dX2_layBox_30 rfl 0 rfl ?_
  refine r_aload_n hX dX2_layBox_31 rfl 0 rfl ?_
  refine r_get hX cls2 h0 (by decide) (ce3 h0) 2 (by decide) g1_68 rfl dX2_layBox_32 (rf w (t0 + 3)) rfl ?_
  refine r_iconst hX dX2_layBox_35 (v := (0 : Int32)) (by decide) ?_
  refine r_iald hX (CPk3 hW h0) (CPl3 hW h0) (vin (by decide)) dX2_layBox_36 ?_
  refine r_putI hX cls2 h0 (by decide) (fun _ _ _ => ce3 h0) 8 (by decide) g1_81 rfl rfl (tyX2_ok 8 (by decide)) (fun _ _ => Nat.le_of_ble_eq_true rfl) dX2_layBox_37 (fun _ _ => rfl) ?_
  exact J.sub [0, 1] rfl (wX2_layBox_b40 hX hW h0   hf)
set_option maxRecDepth 20000 in
set_option maxHeartbeats 2000000 in
theorem wX2_layBox_b20 {X : Cx} {w : Wp} {σ : St} {σ' : St} {t0 : Nat}  {x1 : Int32} (hX : OK X w cX2_layBox 3 RX2 none (rmz 1 21) (Qv w σ')) (hW : CW w) (h0 : wK w t0 = 3)   (hf : fX2_layBox_b20 t0 σ x1 = some σ') : J X w 3 σ 20 [(0, rf w t0), (1, .int x1)] [] := by
  rw [fX2_layBox_b20] at hf
  refine r_aload_n hX dX2_layBox_20 rfl 0 rfl ?_
  refine r_aload_n hX dX2_layBox_21 rfl 0 rfl ?_
  refine r_get hX cls2 h0 (by decide) (ce3 h0) 2 (by decide) g1_68 rfl dX2_layBox_22 (rf w (t0 + 3)) rfl ?_
  refine r_iconst hX dX2_layBox_25 (v := (0 : Int32)) (by decide) ?_
  refine r_iald hX (CPk3 hW h0) (CPl3 hW h0) (vin (by decide)) dX2_layBox_26 ?_
  refine r_putI hX cls2 h0 (by decide) (fun _ _ _ => ce3 h0) 7 (by decide) g1_79 rfl rfl (tyX2_ok 7 (by decide)) (fun _ _ => Nat.le_of_ble_eq_true rfl) dX2_layBox_27 (fun _ _ => rfl) ?_
  exact J.sub [0, 1] rfl (wX2_layBox_b30 hX hW h0   hf)
set_option maxRecDepth 20000 in
set_option maxHeartbeats 2000000 in
theorem wX2_layBox_b10 {X : Cx} {w : Wp} {σ : St} {σ' : St} {t0 : Nat}  {x1 : Int32} (hX : OK X w cX2_layBox 3 RX2 none (rmz 1 21) (Qv w σ')) (hW : CW w) (h0 : wK w t0 = 3)   (hf : fX2_layBox_b10 t0 σ x1 = some σ') : J X w 3 σ 10 [(0, rf w t0), (1, .int x1)] [] := by
  rw [fX2_layBox_b10] at hf
  refine r_aload_n hX dX2_layBox_10 rfl 0 rfl ?_
  refine r_aload_n hX dX2_layBox_11 rfl 0 rfl ?_
  refine r_get hX cls2 h0 (by decide) (ce3 h0) 1 (by decide) g1_65 rfl dX2_layBox_12 (rf w (t0 + 2)) rfl ?_
  refine r_iconst hX dX2_layBox_15 (v := (0 : Int32)) (by decide) ?_
  refine r_iald hX (CPk2 hW h0) (CPl2 hW h0) (vin (by decide)) dX2_layBox_16 ?_
  refine r_putI hX cls2 h0 (by decide) (fun _ _ _ => ce3 h0) 6 (by decide) g1_77 rfl rfl (tyX2_ok 6 (by decide)) (fun _ _ => Nat.le_of_ble_eq_true rfl) dX2_layBox_17 (fun _ _ => rfl) ?_
  exact J.sub [0, 1] rfl (wX2_layBox_b20 hX hW h0   hf)
set_option maxRecDepth 20000 in
set_option maxHeartbeats 2000000 in
theorem wX2_layBox_b0 {X : Cx} {w : Wp} {σ : St} {σ' : St} {t0 : Nat}  {x1 : Int32} (hX : OK X w cX2_layBox 3 RX2 none (rmz 1 21) (Qv w σ')) (hW : CW w) (h0 : wK w t0 = 3)   (hf : fX2_layBox t0 σ x1 = some σ') : J X w 3 σ 0 [(0, rf w t0), (1, .int x1)] [] := by
  rw [fX2_layBox] at hf
  refine r_aload_n hX dX2_layBox_0 rfl 0 rfl ?_
  refine r_aload_n hX dX2_layBox_1 rfl 0 rfl ?_
  refine r_get hX cls2 h0 (by decide) (ce3 h0) 1 (by decide) g1_65 rfl dX2_layBox_2 (rf w (t0 + 2)) rfl ?_
  refine r_iconst hX dX2_layBox_5 (v := (0 : Int32)) (by decide) ?_
  refine r_iald hX (CPk2 hW h0) (CPl2 hW h0) (vin (by decide)) dX2_layBox_6 ?_
  refine r_putI hX cls2 h0 (by decide) (fun _ _ _ => ce3 h0) 5 (by decide) g1_75 rfl rfl (tyX2_ok 5 (by decide)) (fun _ _ => Nat.le_of_ble_eq_true rfl) dX2_layBox_7 (fun _ _ => rfl) ?_
  exact J.sub [0, 1] rfl (wX2_layBox_b10 hX hW h0   hf)
theorem miX2_layBox : MI yX2_layBox cX2_layBox 3 none 1 := ⟨g2_100, ⟨by decide, by decide, by decide +kernel⟩, g1_4, by decide +kernel⟩
theorem cX2_layBox_ok (l : Launch) {w : Wp} {σ : St} {σ' : St} {t0 : Nat} {x1 : Int32} (hW : CW w) (h0 : wK w t0 = 3)  (hf : fX2_layBox t0 σ x1 = some σ') : CM l w yX2_layBox cX2_layBox 3 none (rmz 1 21) [rf w t0, .int x1] σ (Qv w σ') := CM.of miX2_layBox.2.2.2 (Nat.le_of_ble_eq_true rfl) (fun X hcl hX => J.sub [0, 1] rfl (wX2_layBox_b0 hX hW h0  hf))
-- X2_take
set_option maxRecDepth 20000 in
set_option maxHeartbeats 2000000 in
theorem wX2_take_b72 {X : Cx} {w : Wp} {σ : St} {σ' : St} {t0 : Nat} {t1 : Nat} {k21 : St → Int32 → Int32 → Int32 → Int32 → Option St} {x3 : Int32} {x4 : Int32} {x6 : Int32} {x7 : Int32} (hX : OK X w cX2_take 9 RX2 (some (.object "JointedShadows$Pose")) (rmz 2 47) (Qq w σ' 3 (some t0))) (hW : CW w) (h0 : wK w t0 = 3) (h1 : wK w t1 = 1) (hk21 : ∀ (σ : St) (x3 : Int32) (x4 : Int32) (x6 : Int32) (x7 : Int32), k21 σ x3 x4 x6 x7 = some σ' → J X w 9 σ 21 [(0, rf w t0), (1, rf w t1), (3, .int x3), (4, .int x4), (5, rf w 3), (6, .int x6), (7, .int x7)] [])  (hf : fX2_take_b72 t0 t1 k21 σ x3 x4 x6 x7 = some σ') : J X w 9 σ 72 [(0, rf w t0), (1, rf w t1), (3, .int x3), (4, .int x4), (5, rf w 3), (6, .int x6), (7, .int x7)] [] := by
  rw [fX2_take_b72] at hf
  refine r_iincC hX dX2_take_72 6 rfl (d := (1 : Int32)) (by decide) (by decide) rfl ?_
  refine r_goto hX dX2_take_75 (tgt := 21) (by decide) ?_
  exact J.sub [1, 2, 3, 4, 5, 6, 0] rfl (hk21 _ _ _ _ _  hf)
set_option maxRecDepth 20000 in
set_option maxHeartbeats 2000000 in
theorem wX2_take_b78 {X : Cx} {w : Wp} {σ : St} {σ' : St} {t0 : Nat} {t1 : Nat}   (hX : OK X w cX2_take 9 RX2 (some (.object "JointedShadows$Pose")) (rmz 2 47) (Qq w σ' 3 (some t0))) (hW : CW w) (h0 : wK w t0 = 3) (h1 : wK w t1 = 1)   (hf : fX2_take_b78 t0 t1 σ = some σ') : J X w 9 σ 78 [(0, rf w t0), (1, rf w t1)] [] := by
  rw [fX2_take_b78] at hf
  refine r_aload_n hX dX2_take_78 rfl 0 rfl ?_
  refine r_aload_n hX dX2_take_79 rfl 1 rfl ?_
  obtain ⟨σ1, hr2, hf⟩ := bd_s hf
  refine J.callv (fun H locs ls a b c => runV hX miX2_layPoints (As := [rf w t1]) (cX2_layPoints_ok (xl X) hW h0 h1 hr2) g2_82 g2_84 gs_4 cls2 h0 (by decide) (ce3 h0) ⟨Nat.le_of_ble_eq_true rfl, Nat.le_of_ble_eq_true rfl⟩ dX2_take_80 rfl (rest := []) rfl (Nat.le_of_ble_eq_true rfl) a b c) ?_
  refine r_aload_n hX dX2_take_83 rfl 0 rfl ?_
  refine r_aload_n hX dX2_take_84 rfl 1 rfl ?_
  refine r_get hX cls0 h1 (by decide) (ce1 h1) 7 (by decide) g1_180 rfl dX2_take_85 (.int (σ1.1 t1 7)) rfl ?_
  obtain ⟨σ3, hr4, hf⟩ := bd_s hf
  refine J.callv (fun H locs ls a b c => runV hX miX2_layBox (As := [.int (σ1.1 t1 7)]) (cX2_layBox_ok (xl X) hW h0 hr4) g2_97 g2_99 gs_5 cls2 h0 (by decide) (ce3 h0) ⟨Nat.le_of_ble_eq_true rfl, Nat.le_of_ble_eq_true rfl⟩ dX2_take_88 rfl (rest := []) rfl (Nat.le_of_ble_eq_true rfl) a b c) ?_
  refine r_aload_n hX dX2_take_91 rfl 0 rfl ?_
  cases hf
  exact r_aret (r := some t0) hX (fun _ h => by cases h; exact h0) dX2_take_92
set_option maxRecDepth 20000 in
set_option maxHeartbeats 2000000 in
theorem wX2_take_L21 {X : Cx} {w : Wp} {σ' : St} {t0 : Nat} {t1 : Nat}  (hX : OK X w cX2_take 9 RX2 (some (.object "JointedShadows$Pose")) (rmz 2 47) (Qq w σ' 3 (some t0))) (hW : CW w) (h0 : wK w t0 = 3) (h1 : wK w t1 = 1)  : ∀ (n : Nat) (σ : St) (x3 : Int32) (x4 : Int32) (x6 : Int32) (x7 : Int32), fX2_take_L21 t0 t1 n σ x3 x4 x6 x7 = some σ' → J X w 9 σ 21 [(0, rf w t0), (1, rf w t1), (3, .int x3), (4, .int x4), (5, rf w 3), (6, .int x6), (7, .int x7)] [] := by
  intro n
  induction n with
  | zero =>
    intro σ x3 x4 x6 x7 hf
    cases hf
  | succ n ih =>
    intro σ x3 x4 x6 x7 hf
    rw [fX2_take_L21] at hf
    refine r_iload hX dX2_take_21 6 rfl ?_
    refine r_iload hX dX2_take_23 5 rfl ?_
    refine r_icmp_ge hX dX2_take_25 (tgt := 78) (by decide) (fun h => ?_) (fun h => ?_)
    · have hf := ite_t h hf
      exact J.sub [0, 1] rfl (wX2_take_b78 hX hW h0 h1   hf)
    · have hf := ite_f h hf
      refine r_aload hX dX2_take_28 4 rfl ?_
      refine r_iload hX dX2_take_30 6 rfl ?_
      obtain ⟨hi5, hf⟩ := grd_some hf
      refine r_aldM hX (CK3 hW) (CL3 hW) hi5 dX2_take_32 (fun oo1 heoo1 htoo1 => ?_)
      have hf := app1_s heoo1 hf
      refine r_astoreQ hX (i := 8) dX2_take_33 (by decide) rfl ?_
      refine r_aloadQ hX dX2_take_35 0 rfl ?_
      refine r_ifnull hX dX2_take_37 (tgt := 78) (by decide) (fun h => ?_) (fun u2 h => ?_)
      · subst h
        have hf := elim_n hf
        exact J.sub [1, 2] rfl (wX2_take_b78 hX hW h0 h1   hf)
      · subst h
        have hf := elim_s hf
        refine r_aload hX dX2_take_40 0 rfl ?_
        refine r_get hX cls1 (htoo1 u2 rfl) (by decide) (ce2 (htoo1 u2 rfl)) 1 (by decide) g2_4 rfl dX2_take_42 (.int (σ.1 u2 1)) rfl ?_
        refine r_iload_n hX dX2_take_45 rfl 3 rfl ?_
        refine r_icmp_le hX dX2_take_46 (tgt := 52) (by decide) (fun h => ?_) (fun h => ?_)
        · have hf := ite_t h hf
          refine r_aload hX dX2_take_52 0 rfl ?_
          refine r_get hX cls1 (htoo1 u2 rfl) (by decide) (ce2 (htoo1 u2 rfl)) 2 (by decide) g2_7 rfl dX2_take_54 (.int (σ.1 u2 2)) rfl ?_
          refine r_aload_n hX dX2_take_57 rfl 2 rfl ?_
          refine r_get hX cls0 h1 (by decide) (ce1 h1) 0 (by decide) g1_166 rfl dX2_take_58 (.int (σ.1 t1 0)) rfl ?_
          refine r_icmp_ne hX dX2_take_61 (tgt := 72) (by decide) (fun h => ?_) (fun h => ?_)
          · have hf := ite_f h hf
            exact J.sub [1, 2, 3, 4, 5, 6, 7] rfl (wX2_take_b72 hX hW h0 h1 ih  hf)
          · have hf := ite_t h hf
            refine r_aload_n hX dX2_take_64 rfl 1 rfl ?_
            refine r_aload hX dX2_take_65 0 rfl ?_
            refine r_iload hX dX2_take_67 4 rfl ?_
            obtain ⟨σ3, hr4, hf⟩ := bd_s hf
            refine J.callv (fun H locs ls a b c => runV hX miX2_follow (As := [rf w u2, .int x4]) (cX2_follow_ok (xl X) hW h0 (htoo1 u2 rfl) hr4) g2_75 g2_77 gs_3 cls2 h0 (by decide) (ce3 h0) ⟨Nat.le_of_ble_eq_true rfl, Nat.le_of_ble_eq_true rfl⟩ dX2_take_69 rfl (rest := []) rfl (Nat.le_of_ble_eq_true rfl) a b c) ?_
            exact J.sub [1, 2, 3, 4, 5, 6, 7] rfl (wX2_take_b72 hX hW h0 h1 ih  hf)
        · have hf := ite_f h hf
          refine r_goto hX dX2_take_49 (tgt := 78) (by decide) ?_
          exact J.sub [1, 2] rfl (wX2_take_b78 hX hW h0 h1   hf)
set_option maxRecDepth 20000 in
set_option maxHeartbeats 2000000 in
theorem wX2_take_b0 {X : Cx} {w : Wp} {σ : St} {σ' : St} {t0 : Nat} {t1 : Nat}  {x3 : Int32} {x4 : Int32} (hX : OK X w cX2_take 9 RX2 (some (.object "JointedShadows$Pose")) (rmz 2 47) (Qq w σ' 3 (some t0))) (hW : CW w) (h0 : wK w t0 = 3) (h1 : wK w t1 = 1)   (hf : fX2_take t0 t1 σ x3 x4 = some σ') : J X w 9 σ 0 [(0, rf w t0), (1, rf w t1), (2, rf w 2), (3, .int x3), (4, .int x4)] [] := by
  rw [fX2_take] at hf
  refine r_aload_n hX dX2_take_0 rfl 0 rfl ?_
  refine r_aload_n hX dX2_take_1 rfl 1 rfl ?_
  refine r_iload hX dX2_take_2 4 rfl ?_
  obtain ⟨σ1, hr2, hf⟩ := bd_s hf
  refine J.callv (fun H locs ls a b c => runV hX miX2_stand (As := [rf w t1, .int x4]) (cX2_stand_ok (xl X) hW h0 h1 hr2) g2_65 g2_67 gs_2 cls2 h0 (by decide) (ce3 h0) ⟨Nat.le_of_ble_eq_true rfl, Nat.le_of_ble_eq_true rfl⟩ dX2_take_4 rfl (rest := []) rfl (Nat.le_of_ble_eq_true rfl) a b c) ?_
  refine r_aload_n hX dX2_take_7 rfl 2 rfl ?_
  refine r_get hX cls4 (CK2 hW) (by decide) (ce5 (CK2 hW)) 0 (by decide) g1_32 rfl dX2_take_8 (rf w 3) rfl ?_
  refine r_astore hX (i := 5) dX2_take_11 (by decide) rfl ?_
  refine r_aload hX dX2_take_13 0 rfl ?_
  refine r_alen hX (t0 := 3) (n := 60) (by rw [(CK3 hW)]; decide) (ce12 (CK3 hW)) rfl (CL3 hW) (v := (60 : Int32)) (by decide) dX2_take_15 ?_
  refine r_istore hX (i := 6) dX2_take_16 (by decide) rfl ?_
  refine r_iconst hX dX2_take_18 (v := (0 : Int32)) (by decide) ?_
  refine r_istore hX (i := 7) dX2_take_19 (by decide) rfl ?_
  exact J.sub [3, 4, 6, 7, 2, 1, 0] rfl (wX2_take_L21 hX hW h0 h1  _ _ _ _ _ _  hf)
theorem miX2_take : MI yX2_take cX2_take 9 (some (.object "JointedShadows$Pose")) 4 := ⟨g2_64, ⟨by decide, by decide, by decide +kernel⟩, g1_4, by decide +kernel⟩
theorem cX2_take_ok (l : Launch) {w : Wp} {σ : St} {σ' : St} {t0 : Nat} {t1 : Nat} {x3 : Int32} {x4 : Int32} (hW : CW w) (h0 : wK w t0 = 3) (h1 : wK w t1 = 1)  (hf : fX2_take t0 t1 σ x3 x4 = some σ') : CM l w yX2_take cX2_take 9 (some (.object "JointedShadows$Pose")) (rmz 2 47) [rf w t0, rf w t1, rf w 2, .int x3, .int x4] σ (Qq w σ' 3 (some t0)) := CM.of miX2_take.2.2.2 (Nat.le_of_ble_eq_true rfl) (fun X hcl hX => J.sub [0, 1, 2, 3, 4] rfl (wX2_take_b0 hX hW h0 h1  hf))
-- X2_height
set_option maxRecDepth 20000 in
set_option maxHeartbeats 2000000 in
theorem wX2_height_b0 {X : Cx} {w : Wp} {σ : St} {r : Int32} {t0 : Nat}   (hX : OK X w cX2_height 1 RX2 (some .int) (rmz 0 0) (Qi w σ r)) (hW : CW w) (h0 : wK w t0 = 3)   (hf : fX2_height σ t0 = r) : J X w 1 σ 0 [(0, rf w t0)] [] := by
  rw [fX2_height] at hf
  refine r_aload_n hX dX2_height_0 rfl 0 rfl ?_
  refine r_get hX cls2 h0 (by decide) (ce3 h0) 8 (by decide) g1_81 rfl dX2_height_1 (.int (σ.1 t0 8)) rfl ?_
  refine r_aload_n hX dX2_height_4 rfl 0 rfl ?_
  refine r_get hX cls2 h0 (by decide) (ce3 h0) 7 (by decide) g1_79 rfl dX2_height_5 (.int (σ.1 t0 7)) rfl ?_
  refine r_isub hX dX2_height_8 ?_
  subst hf
  exact r_iret hX dX2_height_9
theorem miX2_height : MI yX2_height cX2_height 1 (some .int) 0 := ⟨g2_112, ⟨by decide, by decide, by decide +kernel⟩, g1_4, by decide +kernel⟩
theorem cX2_height_ok (l : Launch) {w : Wp} {σ : St} {r : Int32} {t0 : Nat}  (hW : CW w) (h0 : wK w t0 = 3)  (hf : fX2_height σ t0 = r) : CM l w yX2_height cX2_height 1 (some .int) (rmz 0 0) [rf w t0] σ (Qi w σ r) := CM.of miX2_height.2.2.2 (Nat.le_of_ble_eq_true rfl) (fun X hcl hX => J.sub [0] rfl (wX2_height_b0 hX hW h0  hf))
-- X2_measure
set_option maxRecDepth 20000 in
set_option maxHeartbeats 2000000 in
theorem wX2_measure_b0 {X : Cx} {w : Wp} {σ : St} {r : Int32} {t0 : Nat}  {x1 : Int32} (hX : OK X w cX2_measure 2 RX2 (some .int) (rmz 1 20) (Qi w σ r)) (hW : CW w) (h0 : wK w t0 = 3)   (hf : fX2_measure σ t0 x1 = r) : J X w 2 σ 0 [(0, rf w t0), (1, .int x1)] [] := by
  rw [fX2_measure] at hf
  refine r_iload_n hX dX2_measure_0 rfl 1 rfl ?_
  refine r_sw5 (x := x1) (fun h => ?_) (fun h => ?_) (fun h => ?_) (fun h => ?_) (fun h => ?_) (fun h => ?_)
  · refine r_tabOut hX dX2_measure_1 (by first | exact h | omega) (tgt := 66) (by decide) ?_
    have hf := ite_f (sw_ne h 0 (by decide) (by decide)) hf
    have hf := ite_f (sw_ne h 1 (by decide) (by decide)) hf
    have hf := ite_f (sw_ne h 2 (by decide) (by decide)) hf
    have hf := ite_f (sw_ne h 3 (by decide) (by decide)) hf
    have hf := ite_f (sw_ne h 4 (by decide) (by decide)) hf
    refine r_aload_n hX dX2_measure_66 rfl 0 rfl ?_
    refine J.calli (fun H locs ls a b c => runV hX miX2_height (As := []) (cX2_height_ok (xl X) hW h0 rfl) g2_109 g2_110 g2_111 cls2 h0 (by decide) (ce3 h0) ⟨Nat.le_of_ble_eq_true rfl, Nat.le_of_ble_eq_true rfl⟩ dX2_measure_67 rfl (rest := []) rfl (Nat.le_of_ble_eq_true rfl) a b c) ?_
    subst hf
    exact r_iret hX dX2_measure_70
  · have hf := ite_t h hf
    refine r_tabIn hX dX2_measure_1 (by rw [h]; decide) (by rw [h]; decide) (off := 35) (by rw [h]; rfl) (tgt := 36) (by decide) ?_
    refine r_aload_n hX dX2_measure_36 rfl 0 rfl ?_
    refine r_get hX cls2 h0 (by decide) (ce3 h0) 5 (by decide) g1_75 rfl dX2_measure_37 (.int (σ.1 t0 5)) rfl ?_
    subst hf
    exact r_iret hX dX2_measure_40
  · have hf := ite_f (sw_nk (j := 0) h (by decide)) hf
    have hf := ite_t h hf
    refine r_tabIn hX dX2_measure_1 (by rw [h]; decide) (by rw [h]; decide) (off := 40) (by rw [h]; rfl) (tgt := 41) (by decide) ?_
    refine r_aload_n hX dX2_measure_41 rfl 0 rfl ?_
    refine r_get hX cls2 h0 (by decide) (ce3 h0) 6 (by decide) g1_77 rfl dX2_measure_42 (.int (σ.1 t0 6)) rfl ?_
    subst hf
    exact r_iret hX dX2_measure_45
  · have hf := ite_f (sw_nk (j := 0) h (by decide)) hf
    have hf := ite_f (sw_nk (j := 1) h (by decide)) hf
    have hf := ite_t h hf
    refine r_tabIn hX dX2_measure_1 (by rw [h]; decide) (by rw [h]; decide) (off := 45) (by rw [h]; rfl) (tgt := 46) (by decide) ?_
    refine r_aload_n hX dX2_measure_46 rfl 0 rfl ?_
    refine r_get hX cls2 h0 (by decide) (ce3 h0) 7 (by decide) g1_79 rfl dX2_measure_47 (.int (σ.1 t0 7)) rfl ?_
    subst hf
    exact r_iret hX dX2_measure_50
  · have hf := ite_f (sw_nk (j := 0) h (by decide)) hf
    have hf := ite_f (sw_nk (j := 1) h (by decide)) hf
    have hf := ite_f (sw_nk (j := 2) h (by decide)) hf
    have hf := ite_t h hf
    refine r_tabIn hX dX2_measure_1 (by rw [h]; decide) (by rw [h]; decide) (off := 50) (by rw [h]; rfl) (tgt := 51) (by decide) ?_
    refine r_aload_n hX dX2_measure_51 rfl 0 rfl ?_
    refine r_get hX cls2 h0 (by decide) (ce3 h0) 8 (by decide) g1_81 rfl dX2_measure_52 (.int (σ.1 t0 8)) rfl ?_
    subst hf
    exact r_iret hX dX2_measure_55
  · have hf := ite_f (sw_nk (j := 0) h (by decide)) hf
    have hf := ite_f (sw_nk (j := 1) h (by decide)) hf
    have hf := ite_f (sw_nk (j := 2) h (by decide)) hf
    have hf := ite_f (sw_nk (j := 3) h (by decide)) hf
    have hf := ite_t h hf
    refine r_tabIn hX dX2_measure_1 (by rw [h]; decide) (by rw [h]; decide) (off := 55) (by rw [h]; rfl) (tgt := 56) (by decide) ?_
    refine r_aload_n hX dX2_measure_56 rfl 0 rfl ?_
    refine r_get hX cls2 h0 (by decide) (ce3 h0) 6 (by decide) g1_77 rfl dX2_measure_57 (.int (σ.1 t0 6)) rfl ?_
    refine r_aload_n hX dX2_measure_60 rfl 0 rfl ?_
    refine r_get hX cls2 h0 (by decide) (ce3 h0) 5 (by decide) g1_75 rfl dX2_measure_61 (.int (σ.1 t0 5)) rfl ?_
    refine r_isub hX dX2_measure_64 ?_
    subst hf
    exact r_iret hX dX2_measure_65
theorem miX2_measure : MI yX2_measure cX2_measure 2 (some .int) 1 := ⟨g2_108, ⟨by decide, by decide, by decide +kernel⟩, g1_4, by decide +kernel⟩
theorem cX2_measure_ok (l : Launch) {w : Wp} {σ : St} {r : Int32} {t0 : Nat} {x1 : Int32} (hW : CW w) (h0 : wK w t0 = 3)  (hf : fX2_measure σ t0 x1 = r) : CM l w yX2_measure cX2_measure 2 (some .int) (rmz 1 20) [rf w t0, .int x1] σ (Qi w σ r) := CM.of miX2_measure.2.2.2 (Nat.le_of_ble_eq_true rfl) (fun X hcl hX => J.sub [0, 1] rfl (wX2_measure_b0 hX hW h0  hf))
-- X2_isWithin
set_option maxRecDepth 20000 in
set_option maxHeartbeats 2000000 in
theorem wX2_isWithin_b0 {X : Cx} {w : Wp} {σ : St} {r : Int32} {t0 : Nat}  {x1 : Int32} {x2 : Int32} {x3 : Int32} (hX : OK X w cX2_isWithin 6 RX2 (some .boolean) (rmz 1 21) (Qz w σ r)) (hW : CW w) (h0 : wK w t0 = 3)   (hf : fX2_isWithin σ t0 x1 x2 x3 = r) : J X w 6 σ 0 [(0, rf w t0), (1, .int x1), (2, .int x2), (3, .int x3)] [] := by
  rw [fX2_isWithin] at hf
  refine r_aload_n hX dX2_isWithin_0 rfl 0 rfl ?_
  refine r_get hX cls2 h0 (by decide) (ce3 h0) 5 (by decide) g1_75 rfl dX2_isWithin_1 (.int (σ.1 t0 5)) rfl ?_
  refine r_ineg hX dX2_isWithin_4 ?_
  refine r_aload_n hX dX2_isWithin_5 rfl 0 rfl ?_
  refine r_get hX cls2 h0 (by decide) (ce3 h0) 6 (by decide) g1_77 rfl dX2_isWithin_6 (.int (σ.1 t0 6)) rfl ?_
  refine J.calli (fun H locs ls a b c => runS hX miJ9_max_7cf53 (cJ9_max_7cf53_ok (xl X)  rfl) g2_79 g2_80 ⟨Nat.le_of_ble_eq_true rfl, Nat.le_of_ble_eq_true rfl⟩ dX2_isWithin_9 rfl (As := [.int (-(σ.1 t0 5)), .int (σ.1 t0 6)]) (rest := []) rfl (Nat.le_of_ble_eq_true rfl) a b c) ?_
  refine r_istore hX (i := 4) dX2_isWithin_12 (by decide) rfl ?_
  refine r_aload_n hX dX2_isWithin_14 rfl 1 rfl ?_
  refine r_get hX cls2 h0 (by decide) (ce3 h0) 7 (by decide) g1_79 rfl dX2_isWithin_15 (.int (σ.1 t0 7)) rfl ?_
  refine r_ineg hX dX2_isWithin_18 ?_
  refine r_aload_n hX dX2_isWithin_19 rfl 1 rfl ?_
  refine r_get hX cls2 h0 (by decide) (ce3 h0) 8 (by decide) g1_81 rfl dX2_isWithin_20 (.int (σ.1 t0 8)) rfl ?_
  refine J.calli (fun H locs ls a b c => runS hX miJ9_max_7cf53 (cJ9_max_7cf53_ok (xl X)  rfl) g2_79 g2_80 ⟨Nat.le_of_ble_eq_true rfl, Nat.le_of_ble_eq_true rfl⟩ dX2_isWithin_23 rfl (As := [.int (-(σ.1 t0 7)), .int (σ.1 t0 8)]) (rest := []) rfl (Nat.le_of_ble_eq_true rfl) a b c) ?_
  refine r_istore hX (i := 5) dX2_isWithin_26 (by decide) rfl ?_
  refine r_iload hX dX2_isWithin_28 1 rfl ?_
  refine r_iload_n hX dX2_isWithin_30 rfl 5 rfl ?_
  refine r_imul hX dX2_isWithin_31 ?_
  refine r_iload_n hX dX2_isWithin_32 rfl 3 rfl ?_
  refine r_aload_n hX dX2_isWithin_33 rfl 2 rfl ?_
  refine r_get hX cls2 h0 (by decide) (ce3 h0) 4 (by decide) g1_73 rfl dX2_isWithin_34 (.int (σ.1 t0 4)) rfl ?_
  refine r_imul hX dX2_isWithin_37 ?_
  refine r_icmp_gt hX dX2_isWithin_38 (tgt := 58) (by decide) (fun h => ?_) (fun h => ?_)
  · have hf := ite_t h hf
    refine r_iconst hX dX2_isWithin_58 (v := (0 : Int32)) (by decide) ?_
    subst hf
    exact r_zret hX bz0 dX2_isWithin_59
  · have hf := ite_f h hf
    refine r_iload hX dX2_isWithin_41 0 rfl ?_
    refine r_iload_n hX dX2_isWithin_43 rfl 5 rfl ?_
    refine r_imul hX dX2_isWithin_44 ?_
    refine r_iload_n hX dX2_isWithin_45 rfl 4 rfl ?_
    refine r_aload_n hX dX2_isWithin_46 rfl 2 rfl ?_
    refine r_get hX cls2 h0 (by decide) (ce3 h0) 4 (by decide) g1_73 rfl dX2_isWithin_47 (.int (σ.1 t0 4)) rfl ?_
    refine r_imul hX dX2_isWithin_50 ?_
    refine r_icmp_gt hX dX2_isWithin_51 (tgt := 58) (by decide) (fun h => ?_) (fun h => ?_)
    · have hf := ite_t h hf
      refine r_iconst hX dX2_isWithin_58 (v := (0 : Int32)) (by decide) ?_
      subst hf
      exact r_zret hX bz0 dX2_isWithin_59
    · have hf := ite_f h hf
      refine r_iconst hX dX2_isWithin_54 (v := (1 : Int32)) (by decide) ?_
      refine r_goto hX dX2_isWithin_55 (tgt := 59) (by decide) ?_
      subst hf
      exact r_zret hX bz1 dX2_isWithin_59
theorem miX2_isWithin : MI yX2_isWithin cX2_isWithin 6 (some .boolean) 3 := ⟨g2_184, ⟨by decide, by decide, by decide +kernel⟩, g1_4, by decide +kernel⟩
theorem cX2_isWithin_ok (l : Launch) {w : Wp} {σ : St} {r : Int32} {t0 : Nat} {x1 : Int32} {x2 : Int32} {x3 : Int32} (hW : CW w) (h0 : wK w t0 = 3)  (hf : fX2_isWithin σ t0 x1 x2 x3 = r) : CM l w yX2_isWithin cX2_isWithin 6 (some .boolean) (rmz 1 21) [rf w t0, .int x1, .int x2, .int x3] σ (Qz w σ r) := CM.of miX2_isWithin.2.2.2 (Nat.le_of_ble_eq_true rfl) (fun X hcl hX => J.sub [0, 1, 2, 3] rfl (wX2_isWithin_b0 hX hW h0  hf))
-- X3_allButFirst
set_option maxRecDepth 20000 in
set_option maxHeartbeats 2000000 in
theorem wX3_allButFirst_b0 {X : Cx} {w : Wp} {σ : St} {r : Int32}   (hX : OK X w cX3_allButFirst 1 RX3 (some .int) (rmz 0 0) (Qi w σ r)) (hW : CW w)   (hf : fX3_allButFirst σ = r) : J X w 1 σ 0 [(0, rf w 4)] [] := by
  rw [fX3_allButFirst] at hf
  refine r_iconst hX dX3_allButFirst_0 (v := (1 : Int32)) (by decide) ?_
  refine r_aload_n hX dX3_allButFirst_1 rfl 0 rfl ?_
  refine r_get hX cls3 (CK4 hW) (by decide) (ce4 (CK4 hW)) 1 (by decide) g1_47 rfl dX3_allButFirst_2 (.int (σ.1 4 1)) rfl ?_
  refine r_ishl hX dX3_allButFirst_5 ?_
  refine r_iconst hX dX3_allButFirst_6 (v := (1 : Int32)) (by decide) ?_
  refine r_isub hX dX3_allButFirst_7 ?_
  refine r_iconst hX dX3_allButFirst_8 (v := (1 : Int32)) (by decide) ?_
  refine r_ishr hX dX3_allButFirst_9 ?_
  subst hf
  exact r_iret hX dX3_allButFirst_10
theorem miX3_allButFirst : MI yX3_allButFirst cX3_allButFirst 1 (some .int) 0 := ⟨g3_10, ⟨by decide, by decide, by decide +kernel⟩, g1_3, by decide +kernel⟩
theorem cX3_allButFirst_ok (l : Launch) {w : Wp} {σ : St} {r : Int32}  (hW : CW w)  (hf : fX3_allButFirst σ = r) : CM l w yX3_allButFirst cX3_allButFirst 1 (some .int) (rmz 0 0) [rf w 4] σ (Qi w σ r) := CM.of miX3_allButFirst.2.2.2 (Nat.le_of_ble_eq_true rfl) (fun X hcl hX => J.sub [0] rfl (wX3_allButFirst_b0 hX hW  hf))
-- X3_sceneBit
set_option maxRecDepth 20000 in
set_option maxHeartbeats 2000000 in
theorem wX3_sceneBit_b0 {X : Cx} {w : Wp} {σ : St} {r : Int32}  {x0 : Int32} (hX : OK X w cX3_sceneBit 1 RX3 (some .int) (rmz 0 0) (Qi w σ r))    (hf : fX3_sceneBit x0 = r) : J X w 1 σ 0 [(0, .int x0)] [] := by
  rw [fX3_sceneBit] at hf
  refine r_iconst hX dX3_sceneBit_0 (v := (1 : Int32)) (by decide) ?_
  refine r_iload_n hX dX3_sceneBit_1 rfl 0 rfl ?_
  refine r_ishl hX dX3_sceneBit_2 ?_
  refine r_iconst hX dX3_sceneBit_3 (v := (1 : Int32)) (by decide) ?_
  refine r_ishr hX dX3_sceneBit_4 ?_
  subst hf
  exact r_iret hX dX3_sceneBit_5
theorem miX3_sceneBit : MI yX3_sceneBit cX3_sceneBit 1 (some .int) 1 := ⟨g3_16, ⟨by decide, by decide, by decide +kernel⟩, g1_3, by decide +kernel⟩
theorem cX3_sceneBit_ok (l : Launch) {w : Wp} {σ : St} {r : Int32} {x0 : Int32}   (hf : fX3_sceneBit x0 = r) : CM l w yX3_sceneBit cX3_sceneBit 1 (some .int) (rmz 0 0) [.int x0] σ (Qi w σ r) := CM.of miX3_sceneBit.2.2.2 (Nat.le_of_ble_eq_true rfl) (fun X hcl hX => J.sub [0] rfl (wX3_sceneBit_b0 hX   hf))
-- X3_isIn
set_option maxRecDepth 20000 in
set_option maxHeartbeats 2000000 in
theorem wX3_isIn_b0 {X : Cx} {w : Wp} {σ : St} {r : Int32}  {x0 : Int32} {x1 : Int32} (hX : OK X w cX3_isIn 2 RX3 (some .boolean) (rmz 1 20) (Qz w σ r))    (hf : fX3_isIn x0 x1 = r) : J X w 2 σ 0 [(0, .int x0), (1, .int x1)] [] := by
  rw [fX3_isIn] at hf
  refine r_iload_n hX dX3_isIn_0 rfl 0 rfl ?_
  refine r_iload_n hX dX3_isIn_1 rfl 1 rfl ?_
  refine J.calli (fun H locs ls a b c => runS hX miX3_sceneBit (cX3_sceneBit_ok (xl X)  rfl) g3_14 g3_15 ⟨Nat.le_of_ble_eq_true rfl, Nat.le_of_ble_eq_true rfl⟩ dX3_isIn_2 rfl (As := [.int x1]) (rest := [.int x0]) rfl (Nat.le_of_ble_eq_true rfl) a b c) ?_
  refine r_iand hX dX3_isIn_5 ?_
  refine r_if_eq hX dX3_isIn_6 (tgt := 13) (by decide) (fun h => ?_) (fun h => ?_)
  · have hf := ite_t h hf
    refine r_iconst hX dX3_isIn_13 (v := (0 : Int32)) (by decide) ?_
    subst hf
    exact r_zret hX bz0 dX3_isIn_14
  · have hf := ite_f h hf
    refine r_iconst hX dX3_isIn_9 (v := (1 : Int32)) (by decide) ?_
    refine r_goto hX dX3_isIn_10 (tgt := 14) (by decide) ?_
    subst hf
    exact r_zret hX bz1 dX3_isIn_14
theorem miX3_isIn : MI yX3_isIn cX3_isIn 2 (some .boolean) 2 := ⟨g3_13, ⟨by decide, by decide, by decide +kernel⟩, g1_3, by decide +kernel⟩
theorem cX3_isIn_ok (l : Launch) {w : Wp} {σ : St} {r : Int32} {x0 : Int32} {x1 : Int32}   (hf : fX3_isIn x0 x1 = r) : CM l w yX3_isIn cX3_isIn 2 (some .boolean) (rmz 1 20) [.int x0, .int x1] σ (Qz w σ r) := CM.of miX3_isIn.2.2.2 (Nat.le_of_ble_eq_true rfl) (fun X hcl hX => J.sub [0, 1] rfl (wX3_isIn_b0 hX   hf))
-- X3_least
set_option maxRecDepth 20000 in
set_option maxHeartbeats 2000000 in
theorem wX3_least_b0 {X : Cx} {w : Wp} {σ : St} {r : Int32}  {x1 : Int32} {x2 : Int32} (hX : OK X w cX3_least 3 RX3 (some .int) (rmz 0 0) (Qi w σ r)) (hW : CW w)   (hf : fX3_least σ x1 x2 = some r) : J X w 3 σ 0 [(0, rf w 4), (1, .int x1), (2, .int x2)] [] := by
  rw [fX3_least] at hf
  refine r_aload_n hX dX3_least_0 rfl 0 rfl ?_
  refine r_get hX cls3 (CK4 hW) (by decide) (ce4 (CK4 hW)) 2 (by decide) g1_49 rfl dX3_least_1 (rf w 6) rfl ?_
  refine r_iload_n hX dX3_least_4 rfl 1 rfl ?_
  refine r_bipush hX dX3_least_5 (v := (8 : Int32)) (by decide) ?_
  refine r_imul hX dX3_least_7 ?_
  refine r_iload_n hX dX3_least_8 rfl 2 rfl ?_
  refine r_iadd hX dX3_least_9 ?_
  obtain ⟨hi1, hf⟩ := grd_some hf
  refine r_iald hX (CK6 hW) (CL6 hW) hi1 dX3_least_10 ?_
  cases hf
  exact r_iret hX dX3_least_11
theorem miX3_least : MI yX3_least cX3_least 3 (some .int) 2 := ⟨g3_30, ⟨by decide, by decide, by decide +kernel⟩, g1_3, by decide +kernel⟩
theorem cX3_least_ok (l : Launch) {w : Wp} {σ : St} {r : Int32} {x1 : Int32} {x2 : Int32} (hW : CW w)  (hf : fX3_least σ x1 x2 = some r) : CM l w yX3_least cX3_least 3 (some .int) (rmz 0 0) [rf w 4, .int x1, .int x2] σ (Qi w σ r) := CM.of miX3_least.2.2.2 (Nat.le_of_ble_eq_true rfl) (fun X hcl hX => J.sub [0, 1, 2] rfl (wX3_least_b0 hX hW  hf))
-- X3_costVia
set_option maxRecDepth 20000 in
set_option maxHeartbeats 2000000 in
theorem wX3_costVia_b0 {X : Cx} {w : Wp} {σ : St} {r : Int32}  {x1 : Int32} {x2 : Int32} {x3 : Int32} (hX : OK X w cX3_costVia 4 RX3 (some .int) (rmz 1 22) (Qi w σ r)) (hW : CW w)   (hf : fX3_costVia σ x1 x2 x3 = some r) : J X w 4 σ 0 [(0, rf w 4), (1, .int x1), (2, .int x2), (3, .int x3)] [] := by
  rw [fX3_costVia] at hf
  refine r_aload_n hX dX3_costVia_0 rfl 0 rfl ?_
  refine r_get hX cls3 (CK4 hW) (by decide) (ce4 (CK4 hW)) 0 (by decide) g1_46 rfl dX3_costVia_1 (rf w 5) rfl ?_
  refine r_iload_n hX dX3_costVia_4 rfl 2 rfl ?_
  obtain ⟨hi4, hf⟩ := grd_some hf
  refine r_iald hX (CK5 hW) (CL5 hW) hi4 dX3_costVia_5 ?_
  refine r_aload_n hX dX3_costVia_6 rfl 0 rfl ?_
  refine r_get hX cls3 (CK4 hW) (by decide) (ce4 (CK4 hW)) 0 (by decide) g1_46 rfl dX3_costVia_7 (rf w 5) rfl ?_
  refine r_iload_n hX dX3_costVia_10 rfl 3 rfl ?_
  obtain ⟨hi3, hf⟩ := grd_some hf
  refine r_iald hX (CK5 hW) (CL5 hW) hi3 dX3_costVia_11 ?_
  refine r_ixor hX dX3_costVia_12 ?_
  refine J.calli (fun H locs ls a b c => runS hX miJ6_bitCount_0f7a4 (cJ6_bitCount_0f7a4_ok (xl X)  rfl) g3_26 g2_220 ⟨Nat.le_of_ble_eq_true rfl, Nat.le_of_ble_eq_true rfl⟩ dX3_costVia_13 rfl (As := [.int ((σ.1 5 (ix x2)) ^^^ (σ.1 5 (ix x3)))]) (rest := []) rfl (Nat.le_of_ble_eq_true rfl) a b c) ?_
  refine r_aload_n hX dX3_costVia_16 rfl 0 rfl ?_
  refine r_iload_n hX dX3_costVia_17 rfl 1 rfl ?_
  refine r_iload_n hX dX3_costVia_18 rfl 3 rfl ?_
  refine J.calli (fun H locs ls a b c => runS hX miX3_sceneBit (cX3_sceneBit_ok (xl X)  rfl) g3_14 g3_15 ⟨Nat.le_of_ble_eq_true rfl, Nat.le_of_ble_eq_true rfl⟩ dX3_costVia_19 rfl (As := [.int x3]) (rest := [.int x1, rf w 4, .int (fJ6_bitCount_0f7a4 ((σ.1 5 (ix x2)) ^^^ (σ.1 5 (ix x3))))]) rfl (Nat.le_of_ble_eq_true rfl) a b c) ?_
  refine r_iconst hX dX3_costVia_22 (v := (-1 : Int32)) (by decide) ?_
  refine r_ixor hX dX3_costVia_23 ?_
  refine r_iand hX dX3_costVia_24 ?_
  refine r_iload_n hX dX3_costVia_25 rfl 3 rfl ?_
  obtain ⟨r1, hr2, hf⟩ := bd_s hf
  refine J.calli (fun H locs ls a b c => runV hX miX3_least (As := [.int (x1 &&& ((fX3_sceneBit x3) ^^^ (-1 : Int32))), .int x3]) (cX3_least_ok (xl X) hW  hr2) g3_27 g3_29 gs_16 cls3 (CK4 hW) (by decide) (ce4 (CK4 hW)) ⟨Nat.le_of_ble_eq_true rfl, Nat.le_of_ble_eq_true rfl⟩ dX3_costVia_26 rfl (rest := [.int (fJ6_bitCount_0f7a4 ((σ.1 5 (ix x2)) ^^^ (σ.1 5 (ix x3))))]) rfl (Nat.le_of_ble_eq_true rfl) a b c) ?_
  refine r_iadd hX dX3_costVia_29 ?_
  cases hf
  exact r_iret hX dX3_costVia_30
theorem miX3_costVia : MI yX3_costVia cX3_costVia 4 (some .int) 3 := ⟨g3_25, ⟨by decide, by decide, by decide +kernel⟩, g1_3, by decide +kernel⟩
theorem cX3_costVia_ok (l : Launch) {w : Wp} {σ : St} {r : Int32} {x1 : Int32} {x2 : Int32} {x3 : Int32} (hW : CW w)  (hf : fX3_costVia σ x1 x2 x3 = some r) : CM l w yX3_costVia cX3_costVia 4 (some .int) (rmz 1 22) [rf w 4, .int x1, .int x2, .int x3] σ (Qi w σ r) := CM.of miX3_costVia.2.2.2 (Nat.le_of_ble_eq_true rfl) (fun X hcl hX => J.sub [0, 1, 2, 3] rfl (wX3_costVia_b0 hX hW  hf))
-- X3_firstBestNext
set_option maxRecDepth 20000 in
set_option maxHeartbeats 2000000 in
theorem wX3_firstBestNext_b56 {X : Cx} {w : Wp} {σ : St} {r : Int32} {k9 : Int32 → Int32 → Int32 → Int32 → Int32 → Option Int32} {x1 : Int32} {x2 : Int32} {x3 : Int32} {x4 : Int32} {x5 : Int32} (hX : OK X w cX3_firstBestNext 7 RX3 (some .int) (rmz 2 45) (Qi w σ r)) (hW : CW w) (hk9 : ∀ (x1 : Int32) (x2 : Int32) (x3 : Int32) (x4 : Int32) (x5 : Int32), k9 x1 x2 x3 x4 x5 = some r → J X w 7 σ 9 [(0, rf w 4), (1, .int x1), (2, .int x2), (3, .int x3), (4, .int x4), (5, .int x5)] [])  (hf : fX3_firstBestNext_b56 σ k9 x1 x2 x3 x4 x5 = some r) : J X w 7 σ 56 [(0, rf w 4), (1, .int x1), (2, .int x2), (3, .int x3), (4, .int x4), (5, .int x5)] [] := by
  rw [fX3_firstBestNext_b56] at hf
  refine r_iincC hX dX3_firstBestNext_56 5 rfl (d := (1 : Int32)) (by decide) (by decide) rfl ?_
  refine r_goto hX dX3_firstBestNext_59 (tgt := 9) (by decide) ?_
  exact J.sub [1, 2, 3, 4, 5, 0] rfl (hk9 _ _ _ _ _  hf)
set_option maxRecDepth 20000 in
set_option maxHeartbeats 2000000 in
theorem wX3_firstBestNext_b40 {X : Cx} {w : Wp} {σ : St} {r : Int32} {k9 : Int32 → Int32 → Int32 → Int32 → Int32 → Option Int32} {x1 : Int32} {x2 : Int32} {x3 : Int32} {x4 : Int32} {x5 : Int32} {xs0 : Int32} (hX : OK X w cX3_firstBestNext 7 RX3 (some .int) (rmz 2 45) (Qi w σ r)) (hW : CW w) (hk9 : ∀ (x1 : Int32) (x2 : Int32) (x3 : Int32) (x4 : Int32) (x5 : Int32), k9 x1 x2 x3 x4 x5 = some r → J X w 7 σ 9 [(0, rf w 4), (1, .int x1), (2, .int x2), (3, .int x3), (4, .int x4), (5, .int x5)] [])  (hf : fX3_firstBestNext_b40 σ k9 x1 x2 x3 x4 x5 xs0 = some r) : J X w 7 σ 40 [(0, rf w 4), (1, .int x1), (2, .int x2), (3, .int x3), (4, .int x4), (5, .int x5)] [.int xs0] := by
  rw [fX3_firstBestNext_b40] at hf
  refine r_istore hX (i := 6) dX3_firstBestNext_40 (by decide) rfl ?_
  refine r_iload hX dX3_firstBestNext_42 0 rfl ?_
  refine r_iload hX dX3_firstBestNext_44 5 rfl ?_
  refine r_icmp_ge hX dX3_firstBestNext_46 (tgt := 56) (by decide) (fun h => ?_) (fun h => ?_)
  · have hf := ite_t h hf
    exact J.sub [1, 2, 3, 4, 5, 6] rfl (wX3_firstBestNext_b56 hX hW hk9  hf)
  · have hf := ite_f h hf
    refine r_iload hX dX3_firstBestNext_49 6 rfl ?_
    refine r_istore_n hX (i := 3) dX3_firstBestNext_51 rfl (by decide) rfl ?_
    refine r_iload hX dX3_firstBestNext_52 1 rfl ?_
    refine r_istore hX (i := 4) dX3_firstBestNext_54 (by decide) rfl ?_
    exact J.sub [3, 4, 5, 1, 0, 6] rfl (wX3_firstBestNext_b56 hX hW hk9  hf)
set_option maxRecDepth 20000 in
set_option maxHeartbeats 2000000 in
theorem wX3_firstBestNext_L9 {X : Cx} {w : Wp} {σ : St} {r : Int32}  (hX : OK X w cX3_firstBestNext 7 RX3 (some .int) (rmz 2 45) (Qi w σ r)) (hW : CW w)  : ∀ (n : Nat) (x1 : Int32) (x2 : Int32) (x3 : Int32) (x4 : Int32) (x5 : Int32), fX3_firstBestNext_L9 σ n x1 x2 x3 x4 x5 = some r → J X w 7 σ 9 [(0, rf w 4), (1, .int x1), (2, .int x2), (3, .int x3), (4, .int x4), (5, .int x5)] [] := by
  intro n
  induction n with
  | zero =>
    intro x1 x2 x3 x4 x5 hf
    cases hf
  | succ n ih =>
    intro x1 x2 x3 x4 x5 hf
    rw [fX3_firstBestNext_L9] at hf
    refine r_iload hX dX3_firstBestNext_9 5 rfl ?_
    refine r_aload_n hX dX3_firstBestNext_11 rfl 0 rfl ?_
    refine r_get hX cls3 (CK4 hW) (by decide) (ce4 (CK4 hW)) 1 (by decide) g1_47 rfl dX3_firstBestNext_12 (.int (σ.1 4 1)) rfl ?_
    refine r_icmp_ge hX dX3_firstBestNext_15 (tgt := 62) (by decide) (fun h => ?_) (fun h => ?_)
    · have hf := ite_t h hf
      refine r_iload_n hX dX3_firstBestNext_62 rfl 3 rfl ?_
      cases hf
      exact r_iret hX dX3_firstBestNext_63
    · have hf := ite_f h hf
      refine r_iload_n hX dX3_firstBestNext_18 rfl 1 rfl ?_
      refine r_iload hX dX3_firstBestNext_19 5 rfl ?_
      refine J.callz (fun H locs ls a b c => runS hX miX3_isIn (cX3_isIn_ok (xl X)  rfl) g3_11 g3_12 ⟨Nat.le_of_ble_eq_true rfl, Nat.le_of_ble_eq_true rfl⟩ dX3_firstBestNext_21 rfl (As := [.int x1, .int x5]) (rest := []) rfl (Nat.le_of_ble_eq_true rfl) a b c) (fun hz1 => ?_)
      refine r_if_eq hX dX3_firstBestNext_24 (tgt := 38) (by decide) (fun h => ?_) (fun h => ?_)
      · have hf := ite_t h hf
        refine r_ldc hX (v := (2147483647 : Int32)) g3_21 dX3_firstBestNext_38 ?_
        exact J.sub [0, 1, 2, 3, 4, 5] rfl (wX3_firstBestNext_b40 hX hW ih  hf)
      · have hf := ite_f h hf
        refine r_aload_n hX dX3_firstBestNext_27 rfl 0 rfl ?_
        refine r_iload_n hX dX3_firstBestNext_28 rfl 1 rfl ?_
        refine r_iload_n hX dX3_firstBestNext_29 rfl 2 rfl ?_
        refine r_iload hX dX3_firstBestNext_30 5 rfl ?_
        obtain ⟨r2, hr3, hf⟩ := bd_s hf
        refine J.calli (fun H locs ls a b c => runV hX miX3_costVia (As := [.int x1, .int x2, .int x5]) (cX3_costVia_ok (xl X) hW  hr3) g3_22 g3_24 gs_15 cls3 (CK4 hW) (by decide) (ce4 (CK4 hW)) ⟨Nat.le_of_ble_eq_true rfl, Nat.le_of_ble_eq_true rfl⟩ dX3_firstBestNext_32 rfl (rest := []) rfl (Nat.le_of_ble_eq_true rfl) a b c) ?_
        refine r_goto hX dX3_firstBestNext_35 (tgt := 40) (by decide) ?_
        exact J.sub [0, 1, 2, 3, 4, 5] rfl (wX3_firstBestNext_b40 hX hW ih  hf)
set_option maxRecDepth 20000 in
set_option maxHeartbeats 2000000 in
theorem wX3_firstBestNext_b0 {X : Cx} {w : Wp} {σ : St} {r : Int32}  {x1 : Int32} {x2 : Int32} (hX : OK X w cX3_firstBestNext 7 RX3 (some .int) (rmz 2 45) (Qi w σ r)) (hW : CW w)   (hf : fX3_firstBestNext σ x1 x2 = some r) : J X w 7 σ 0 [(0, rf w 4), (1, .int x1), (2, .int x2)] [] := by
  rw [fX3_firstBestNext] at hf
  refine r_iload_n hX dX3_firstBestNext_0 rfl 2 rfl ?_
  refine r_istore_n hX (i := 3) dX3_firstBestNext_1 rfl (by decide) rfl ?_
  refine r_ldc hX (v := (2147483647 : Int32)) g3_21 dX3_firstBestNext_2 ?_
  refine r_istore hX (i := 4) dX3_firstBestNext_4 (by decide) rfl ?_
  refine r_iconst hX dX3_firstBestNext_6 (v := (1 : Int32)) (by decide) ?_
  refine r_istore hX (i := 5) dX3_firstBestNext_7 (by decide) rfl ?_
  exact J.sub [3, 4, 5, 2, 1, 0] rfl (wX3_firstBestNext_L9 hX hW  _ _ _ _ _ _  hf)
theorem miX3_firstBestNext : MI yX3_firstBestNext cX3_firstBestNext 7 (some .int) 2 := ⟨g3_20, ⟨by decide, by decide, by decide +kernel⟩, g1_3, by decide +kernel⟩
theorem cX3_firstBestNext_ok (l : Launch) {w : Wp} {σ : St} {r : Int32} {x1 : Int32} {x2 : Int32} (hW : CW w)  (hf : fX3_firstBestNext σ x1 x2 = some r) : CM l w yX3_firstBestNext cX3_firstBestNext 7 (some .int) (rmz 2 45) [rf w 4, .int x1, .int x2] σ (Qi w σ r) := CM.of miX3_firstBestNext.2.2.2 (Nat.le_of_ble_eq_true rfl) (fun X hcl hX => J.sub [0, 1, 2] rfl (wX3_firstBestNext_b0 hX hW  hf))
-- X3_fillLeast
set_option maxRecDepth 20000 in
set_option maxHeartbeats 2000000 in
theorem wX3_fillLeast_b53 {X : Cx} {w : Wp} {σ : St} {σ' : St} {k7 : St → Int32 → Int32 → Option St} {k14 : St → Int32 → Int32 → Int32 → Option St} {x1 : Int32} {x2 : Int32} {x3 : Int32} (hX : OK X w cX3_fillLeast 4 RX3 none (rmz 3 71) (Qv w σ')) (hW : CW w) (hk7 : ∀ (σ : St) (x1 : Int32) (x2 : Int32), k7 σ x1 x2 = some σ' → J X w 4 σ 7 [(0, rf w 4), (1, .int x1), (2, .int x2)] []) (hk14 : ∀ (σ : St) (x1 : Int32) (x2 : Int32) (x3 : Int32), k14 σ x1 x2 x3 = some σ' → J X w 4 σ 14 [(0, rf w 4), (1, .int x1), (2, .int x2), (3, .int x3)] [])  (hf : fX3_fillLeast_b53 k7 k14 σ x1 x2 x3 = some σ') : J X w 4 σ 53 [(0, rf w 4), (1, .int x1), (2, .int x2), (3, .int x3)] [] := by
  rw [fX3_fillLeast_b53] at hf
  refine r_iincC hX dX3_fillLeast_53 3 rfl (d := (1 : Int32)) (by decide) (by decide) rfl ?_
  refine r_goto hX dX3_fillLeast_56 (tgt := 14) (by decide) ?_
  exact J.sub [1, 2, 3, 0] rfl (hk14 _ _ _ _  hf)
set_option maxRecDepth 20000 in
set_option maxHeartbeats 2000000 in
theorem wX3_fillLeast_L14 {X : Cx} {w : Wp} {σ' : St} {k7 : St → Int32 → Int32 → Option St} (hX : OK X w cX3_fillLeast 4 RX3 none (rmz 3 71) (Qv w σ')) (hW : CW w) (hk7 : ∀ (σ : St) (x1 : Int32) (x2 : Int32), k7 σ x1 x2 = some σ' → J X w 4 σ 7 [(0, rf w 4), (1, .int x1), (2, .int x2)] []) : ∀ (n : Nat) (σ : St) (x1 : Int32) (x2 : Int32) (x3 : Int32), fX3_fillLeast_L14 k7 n σ x1 x2 x3 = some σ' → J X w 4 σ 14 [(0, rf w 4), (1, .int x1), (2, .int x2), (3, .int x3)] [] := by
  intro n
  induction n with
  | zero =>
    intro σ x1 x2 x3 hf
    cases hf
  | succ n ih =>
    intro σ x1 x2 x3 hf
    rw [fX3_fillLeast_L14] at hf
    refine r_iload_n hX dX3_fillLeast_14 rfl 3 rfl ?_
    refine r_aload_n hX dX3_fillLeast_15 rfl 0 rfl ?_
    refine r_get hX cls3 (CK4 hW) (by decide) (ce4 (CK4 hW)) 1 (by decide) g1_47 rfl dX3_fillLeast_16 (.int (σ.1 4 1)) rfl ?_
    refine r_icmp_ge hX dX3_fillLeast_19 (tgt := 59) (by decide) (fun h => ?_) (fun h => ?_)
    · have hf := ite_t h hf
      refine r_iincC hX dX3_fillLeast_59 2 rfl (d := (1 : Int32)) (by decide) (by decide) rfl ?_
      refine r_goto hX dX3_fillLeast_62 (tgt := 7) (by decide) ?_
      exact J.sub [1, 2, 0] rfl (hk7 _ _ _  hf)
    · have hf := ite_f h hf
      refine r_iload_n hX dX3_fillLeast_22 rfl 2 rfl ?_
      refine r_iload_n hX dX3_fillLeast_23 rfl 3 rfl ?_
      refine J.callz (fun H locs ls a b c => runS hX miX3_isIn (cX3_isIn_ok (xl X)  rfl) g3_11 g3_12 ⟨Nat.le_of_ble_eq_true rfl, Nat.le_of_ble_eq_true rfl⟩ dX3_fillLeast_24 rfl (As := [.int x2, .int x3]) (rest := []) rfl (Nat.le_of_ble_eq_true rfl) a b c) (fun hz1 => ?_)
      refine r_if_ne hX dX3_fillLeast_27 (tgt := 53) (by decide) (fun h => ?_) (fun h => ?_)
      · have hf := ite_f h hf
        exact J.sub [0, 1, 2, 3] rfl (wX3_fillLeast_b53 hX hW hk7 ih  hf)
      · have hf := ite_t h hf
        refine r_aload_n hX dX3_fillLeast_30 rfl 0 rfl ?_
        refine r_get hX cls3 (CK4 hW) (by decide) (ce4 (CK4 hW)) 2 (by decide) g1_49 rfl dX3_fillLeast_31 (rf w 6) rfl ?_
        refine r_iload_n hX dX3_fillLeast_34 rfl 2 rfl ?_
        refine r_bipush hX dX3_fillLeast_35 (v := (8 : Int32)) (by decide) ?_
        refine r_imul hX dX3_fillLeast_37 ?_
        refine r_iload_n hX dX3_fillLeast_38 rfl 3 rfl ?_
        refine r_iadd hX dX3_fillLeast_39 ?_
        refine r_aload_n hX dX3_fillLeast_40 rfl 0 rfl ?_
        refine r_iload_n hX dX3_fillLeast_41 rfl 2 rfl ?_
        refine r_iload_n hX dX3_fillLeast_42 rfl 3 rfl ?_
        refine r_aload_n hX dX3_fillLeast_43 rfl 0 rfl ?_
        refine r_iload_n hX dX3_fillLeast_44 rfl 2 rfl ?_
        refine r_iload_n hX dX3_fillLeast_45 rfl 3 rfl ?_
        obtain ⟨r2, hr3, hf⟩ := bd_s hf
        refine J.calli (fun H locs ls a b c => runV hX miX3_firstBestNext (As := [.int x2, .int x3]) (cX3_firstBestNext_ok (xl X) hW  hr3) g3_17 g3_19 gs_14 cls3 (CK4 hW) (by decide) (ce4 (CK4 hW)) ⟨Nat.le_of_ble_eq_true rfl, Nat.le_of_ble_eq_true rfl⟩ dX3_fillLeast_46 rfl (rest := [.int x3, .int x2, rf w 4, .int ((x2 * (8 : Int32)) + x3), rf w 6]) rfl (Nat.le_of_ble_eq_true rfl) a b c) ?_
        obtain ⟨r4, hr5, hf⟩ := bd_s hf
        refine J.calli (fun H locs ls a b c => runV hX miX3_costVia (As := [.int x2, .int x3, .int r2]) (cX3_costVia_ok (xl X) hW  hr5) g3_22 g3_24 gs_15 cls3 (CK4 hW) (by decide) (ce4 (CK4 hW)) ⟨Nat.le_of_ble_eq_true rfl, Nat.le_of_ble_eq_true rfl⟩ dX3_fillLeast_49 rfl (rest := [.int ((x2 * (8 : Int32)) + x3), rf w 6]) rfl (Nat.le_of_ble_eq_true rfl) a b c) ?_
        obtain ⟨hi6, hf⟩ := grd_some hf
        refine r_iast hX (CK6 hW) (CL6 hW) hi6 dX3_fillLeast_52 ?_
        exact J.sub [0, 1, 2, 3] rfl (wX3_fillLeast_b53 hX hW hk7 ih  hf)
set_option maxRecDepth 20000 in
set_option maxHeartbeats 2000000 in
theorem wX3_fillLeast_L7 {X : Cx} {w : Wp} {σ' : St}  (hX : OK X w cX3_fillLeast 4 RX3 none (rmz 3 71) (Qv w σ')) (hW : CW w)  : ∀ (n : Nat) (σ : St) (x1 : Int32) (x2 : Int32), fX3_fillLeast_L7 n σ x1 x2 = some σ' → J X w 4 σ 7 [(0, rf w 4), (1, .int x1), (2, .int x2)] [] := by
  intro n
  induction n with
  | zero =>
    intro σ x1 x2 hf
    cases hf
  | succ n ih =>
    intro σ x1 x2 hf
    rw [fX3_fillLeast_L7] at hf
    refine r_iload_n hX dX3_fillLeast_7 rfl 2 rfl ?_
    refine r_iload_n hX dX3_fillLeast_8 rfl 1 rfl ?_
    refine r_icmp_gt hX dX3_fillLeast_9 (tgt := 65) (by decide) (fun h => ?_) (fun h => ?_)
    · have hf := ite_t h hf
      cases hf
      exact r_vret hX dX3_fillLeast_65
    · have hf := ite_f h hf
      refine r_iconst hX dX3_fillLeast_12 (v := (0 : Int32)) (by decide) ?_
      refine r_istore_n hX (i := 3) dX3_fillLeast_13 rfl (by decide) rfl ?_
      exact J.sub [1, 2, 3, 0] rfl (wX3_fillLeast_L14 hX hW ih _ _ _ _ _  hf)
set_option maxRecDepth 20000 in
set_option maxHeartbeats 2000000 in
theorem wX3_fillLeast_b0 {X : Cx} {w : Wp} {σ : St} {σ' : St}   (hX : OK X w cX3_fillLeast 4 RX3 none (rmz 3 71) (Qv w σ')) (hW : CW w)   (hf : fX3_fillLeast σ = some σ') : J X w 4 σ 0 [(0, rf w 4)] [] := by
  rw [fX3_fillLeast] at hf
  refine r_aload_n hX dX3_fillLeast_0 rfl 0 rfl ?_
  refine J.calli (fun H locs ls a b c => runV hX miX3_allButFirst (As := []) (cX3_allButFirst_ok (xl X) hW  rfl) g3_7 g3_9 gs_13 cls3 (CK4 hW) (by decide) (ce4 (CK4 hW)) ⟨Nat.le_of_ble_eq_true rfl, Nat.le_of_ble_eq_true rfl⟩ dX3_fillLeast_1 rfl (rest := []) rfl (Nat.le_of_ble_eq_true rfl) a b c) ?_
  refine r_istore_n hX (i := 1) dX3_fillLeast_4 rfl (by decide) rfl ?_
  refine r_iconst hX dX3_fillLeast_5 (v := (1 : Int32)) (by decide) ?_
  refine r_istore_n hX (i := 2) dX3_fillLeast_6 rfl (by decide) rfl ?_
  exact J.sub [2, 1, 0] rfl (wX3_fillLeast_L7 hX hW  _ _ _ _  hf)
theorem miX3_fillLeast : MI yX3_fillLeast cX3_fillLeast 4 none 0 := ⟨g3_6, ⟨by decide, by decide, by decide +kernel⟩, g1_3, by decide +kernel⟩
theorem cX3_fillLeast_ok (l : Launch) {w : Wp} {σ : St} {σ' : St}  (hW : CW w)  (hf : fX3_fillLeast σ = some σ') : CM l w yX3_fillLeast cX3_fillLeast 4 none (rmz 3 71) [rf w 4] σ (Qv w σ') := CM.of miX3_fillLeast.2.2.2 (Nat.le_of_ble_eq_true rfl) (fun X hcl hX => J.sub [0] rfl (wX3_fillLeast_b0 hX hW  hf))
-- X3_append
set_option maxRecDepth 20000 in
set_option maxHeartbeats 2000000 in
theorem wX3_append_b34 {X : Cx} {w : Wp} {σ : St} {r : Int32} {σ' : St}  {x2 : Int32} (hX : OK X w cX3_append 3 RX3 (some .int) (rmz 4 94) (Qi w σ' r)) (hW : CW w)   (hf : fX3_append_b34 σ x2 = some (r, σ')) : J X w 3 σ 34 [(0, rf w 4), (2, .int x2)] [] := by
  rw [fX3_append_b34] at hf
  refine r_aload_n hX dX3_append_34 rfl 0 rfl ?_
  obtain ⟨σ1, hr2, hf⟩ := bd_s hf
  refine J.callv (fun H locs ls a b c => runV hX miX3_fillLeast (As := []) (cX3_fillLeast_ok (xl X) hW  hr2) g3_3 g3_5 gs_12 cls3 (CK4 hW) (by decide) (ce4 (CK4 hW)) ⟨Nat.le_of_ble_eq_true rfl, Nat.le_of_ble_eq_true rfl⟩ dX3_append_35 rfl (rest := []) rfl (Nat.le_of_ble_eq_true rfl) a b c) ?_
  refine r_iload_n hX dX3_append_38 rfl 1 rfl ?_
  cases hf
  exact r_iret hX dX3_append_39
set_option maxRecDepth 20000 in
set_option maxHeartbeats 2000000 in
theorem wX3_append_b24 {X : Cx} {w : Wp} {σ : St} {r : Int32} {σ' : St}  {x2 : Int32} (hX : OK X w cX3_append 3 RX3 (some .int) (rmz 4 94) (Qi w σ' r)) (hW : CW w)   (hf : fX3_append_b24 σ x2 = some (r, σ')) : J X w 3 σ 24 [(0, rf w 4), (2, .int x2)] [] := by
  rw [fX3_append_b24] at hf
  refine r_aload_n hX dX3_append_24 rfl 0 rfl ?_
  refine r_dup hX dX3_append_25 rfl ?_
  refine r_get hX cls3 (CK4 hW) (by decide) (ce4 (CK4 hW)) 1 (by decide) g1_47 rfl dX3_append_26 (.int (σ.1 4 1)) rfl ?_
  refine r_iconst hX dX3_append_29 (v := (1 : Int32)) (by decide) ?_
  refine r_iadd hX dX3_append_30 ?_
  refine r_putI hX cls3 (CK4 hW) (by decide) (fun _ _ _ => ce4 (CK4 hW)) 1 (by decide) g1_47 rfl rfl (tyX3_ok 1 (by decide)) (fun _ _ => Nat.le_of_ble_eq_true rfl) dX3_append_31 (fun _ _ => rfl) ?_
  exact J.sub [0, 1] rfl (wX3_append_b34 hX hW   hf)
set_option maxRecDepth 20000 in
set_option maxHeartbeats 2000000 in
theorem wX3_append_b0 {X : Cx} {w : Wp} {σ : St} {r : Int32} {σ' : St}  {x1 : Int32} (hX : OK X w cX3_append 3 RX3 (some .int) (rmz 4 94) (Qi w σ' r)) (hW : CW w)   (hf : fX3_append σ x1 = some (r, σ')) : J X w 3 σ 0 [(0, rf w 4), (1, .int x1)] [] := by
  rw [fX3_append] at hf
  refine r_aload_n hX dX3_append_0 rfl 0 rfl ?_
  refine r_get hX cls3 (CK4 hW) (by decide) (ce4 (CK4 hW)) 1 (by decide) g1_47 rfl dX3_append_1 (.int (σ.1 4 1)) rfl ?_
  refine r_bipush hX dX3_append_4 (v := (8 : Int32)) (by decide) ?_
  refine r_icmp_lt hX dX3_append_6 (tgt := 12) (by decide) (fun h => ?_) (fun h => ?_)
  · have hf := ite_t h hf
    refine r_aload_n hX dX3_append_12 rfl 0 rfl ?_
    refine r_get hX cls3 (CK4 hW) (by decide) (ce4 (CK4 hW)) 1 (by decide) g1_47 rfl dX3_append_13 (.int (σ.1 4 1)) rfl ?_
    refine r_istore_n hX (i := 2) dX3_append_16 rfl (by decide) rfl ?_
    refine r_aload_n hX dX3_append_17 rfl 1 rfl ?_
    refine r_get hX cls3 (CK4 hW) (by decide) (ce4 (CK4 hW)) 0 (by decide) g1_46 rfl dX3_append_18 (rf w 5) rfl ?_
    refine r_iload_n hX dX3_append_21 rfl 0 rfl ?_
    refine r_iload_n hX dX3_append_22 rfl 2 rfl ?_
    obtain ⟨hi1, hf⟩ := grd_some hf
    refine r_iast hX (CK5 hW) (CL5 hW) hi1 dX3_append_23 ?_
    exact J.sub [1, 0] rfl (wX3_append_b24 hX hW   hf)
  · have hf := ite_f h hf
    refine r_bipush hX dX3_append_9 (v := (-4 : Int32)) (by decide) ?_
    cases hf
    exact r_iret hX dX3_append_11
theorem miX3_append : MI yX3_append cX3_append 3 (some .int) 1 := ⟨g3_2, ⟨by decide, by decide, by decide +kernel⟩, g1_3, by decide +kernel⟩
theorem cX3_append_ok (l : Launch) {w : Wp} {σ : St} {r : Int32} {σ' : St} {x1 : Int32} (hW : CW w)  (hf : fX3_append σ x1 = some (r, σ')) : CM l w yX3_append cX3_append 3 (some .int) (rmz 4 94) [rf w 4, .int x1] σ (Qi w σ' r) := CM.of miX3_append.2.2.2 (Nat.le_of_ble_eq_true rfl) (fun X hcl hX => J.sub [0, 1] rfl (wX3_append_b0 hX hW  hf))
-- X3_clear
set_option maxRecDepth 20000 in
set_option maxHeartbeats 2000000 in
theorem wX3_clear_b0 {X : Cx} {w : Wp} {σ : St} {σ' : St}   (hX : OK X w cX3_clear 1 RX3 none (rmz 0 0) (Qv w σ')) (hW : CW w)   (hf : fX3_clear σ = some σ') : J X w 1 σ 0 [(0, rf w 4)] [] := by
  rw [fX3_clear] at hf
  refine r_aload_n hX dX3_clear_0 rfl 0 rfl ?_
  refine r_iconst hX dX3_clear_1 (v := (0 : Int32)) (by decide) ?_
  refine r_putI hX cls3 (CK4 hW) (by decide) (fun _ _ _ => ce4 (CK4 hW)) 1 (by decide) g1_47 rfl rfl (tyX3_ok 1 (by decide)) (fun _ _ => Nat.le_of_ble_eq_true rfl) dX3_clear_2 (fun _ _ => rfl) ?_
  cases hf
  exact r_vret hX dX3_clear_5
theorem miX3_clear : MI yX3_clear cX3_clear 1 none 0 := ⟨g3_38, ⟨by decide, by decide, by decide +kernel⟩, g1_3, by decide +kernel⟩
theorem cX3_clear_ok (l : Launch) {w : Wp} {σ : St} {σ' : St}  (hW : CW w)  (hf : fX3_clear σ = some σ') : CM l w yX3_clear cX3_clear 1 none (rmz 0 0) [rf w 4] σ (Qv w σ') := CM.of miX3_clear.2.2.2 (Nat.le_of_ble_eq_true rfl) (fun X hcl hX => J.sub [0] rfl (wX3_clear_b0 hX hW  hf))
-- X3_leastCost
set_option maxRecDepth 20000 in
set_option maxHeartbeats 2000000 in
theorem wX3_leastCost_b0 {X : Cx} {w : Wp} {σ : St} {r : Int32}   (hX : OK X w cX3_leastCost 1 RX3 (some .int) (rmz 1 22) (Qi w σ r)) (hW : CW w)   (hf : fX3_leastCost σ = some r) : J X w 1 σ 0 [(0, rf w 4)] [] := by
  rw [fX3_leastCost] at hf
  refine r_aload_n hX dX3_leastCost_0 rfl 0 rfl ?_
  refine r_aload_n hX dX3_leastCost_1 rfl 0 rfl ?_
  refine J.calli (fun H locs ls a b c => runV hX miX3_allButFirst (As := []) (cX3_allButFirst_ok (xl X) hW  rfl) g3_7 g3_9 gs_13 cls3 (CK4 hW) (by decide) (ce4 (CK4 hW)) ⟨Nat.le_of_ble_eq_true rfl, Nat.le_of_ble_eq_true rfl⟩ dX3_leastCost_2 rfl (rest := [rf w 4]) rfl (Nat.le_of_ble_eq_true rfl) a b c) ?_
  refine r_iconst hX dX3_leastCost_5 (v := (0 : Int32)) (by decide) ?_
  obtain ⟨r1, hr2, hf⟩ := bd_s hf
  refine J.calli (fun H locs ls a b c => runV hX miX3_least (As := [.int (fX3_allButFirst (σ)), .int (0 : Int32)]) (cX3_least_ok (xl X) hW  hr2) g3_27 g3_29 gs_16 cls3 (CK4 hW) (by decide) (ce4 (CK4 hW)) ⟨Nat.le_of_ble_eq_true rfl, Nat.le_of_ble_eq_true rfl⟩ dX3_leastCost_6 rfl (rest := []) rfl (Nat.le_of_ble_eq_true rfl) a b c) ?_
  cases hf
  exact r_iret hX dX3_leastCost_9
theorem miX3_leastCost : MI yX3_leastCost cX3_leastCost 1 (some .int) 0 := ⟨g3_54, ⟨by decide, by decide, by decide +kernel⟩, g1_3, by decide +kernel⟩
theorem cX3_leastCost_ok (l : Launch) {w : Wp} {σ : St} {r : Int32}  (hW : CW w)  (hf : fX3_leastCost σ = some r) : CM l w yX3_leastCost cX3_leastCost 1 (some .int) (rmz 1 22) [rf w 4] σ (Qi w σ r) := CM.of miX3_leastCost.2.2.2 (Nat.le_of_ble_eq_true rfl) (fun X hcl hX => J.sub [0] rfl (wX3_leastCost_b0 hX hW  hf))
-- X3_sceneAt
set_option maxRecDepth 20000 in
set_option maxHeartbeats 2000000 in
theorem wX3_sceneAt_L10 {X : Cx} {w : Wp} {σ : St} {r : Int32}  (hX : OK X w cX3_sceneAt 5 RX3 (some .int) (rmz 3 71) (Qi w σ r)) (hW : CW w)  : ∀ (n : Nat) (x1 : Int32) (x2 : Int32) (x3 : Int32) (x4 : Int32), fX3_sceneAt_L10 σ n x1 x2 x3 x4 = some r → J X w 5 σ 10 [(0, rf w 4), (1, .int x1), (2, .int x2), (3, .int x3), (4, .int x4)] [] := by
  intro n
  induction n with
  | zero =>
    intro x1 x2 x3 x4 hf
    cases hf
  | succ n ih =>
    intro x1 x2 x3 x4 hf
    rw [fX3_sceneAt_L10] at hf
    refine r_iload hX dX3_sceneAt_10 4 rfl ?_
    refine r_iload_n hX dX3_sceneAt_12 rfl 1 rfl ?_
    refine r_icmp_ge hX dX3_sceneAt_13 (tgt := 38) (by decide) (fun h => ?_) (fun h => ?_)
    · have hf := ite_t h hf
      refine r_iload_n hX dX3_sceneAt_38 rfl 2 rfl ?_
      cases hf
      exact r_iret hX dX3_sceneAt_39
    · have hf := ite_f h hf
      refine r_aload_n hX dX3_sceneAt_16 rfl 0 rfl ?_
      refine r_iload_n hX dX3_sceneAt_17 rfl 3 rfl ?_
      refine r_iload_n hX dX3_sceneAt_18 rfl 2 rfl ?_
      obtain ⟨r1, hr2, hf⟩ := bd_s hf
      refine J.calli (fun H locs ls a b c => runV hX miX3_firstBestNext (As := [.int x3, .int x2]) (cX3_firstBestNext_ok (xl X) hW  hr2) g3_17 g3_19 gs_14 cls3 (CK4 hW) (by decide) (ce4 (CK4 hW)) ⟨Nat.le_of_ble_eq_true rfl, Nat.le_of_ble_eq_true rfl⟩ dX3_sceneAt_19 rfl (rest := []) rfl (Nat.le_of_ble_eq_true rfl) a b c) ?_
      refine r_istore_n hX (i := 2) dX3_sceneAt_22 rfl (by decide) rfl ?_
      refine r_iload_n hX dX3_sceneAt_23 rfl 3 rfl ?_
      refine r_iload_n hX dX3_sceneAt_24 rfl 0 rfl ?_
      refine J.calli (fun H locs ls a b c => runS hX miX3_sceneBit (cX3_sceneBit_ok (xl X)  rfl) g3_14 g3_15 ⟨Nat.le_of_ble_eq_true rfl, Nat.le_of_ble_eq_true rfl⟩ dX3_sceneAt_25 rfl (As := [.int r1]) (rest := [.int x3]) rfl (Nat.le_of_ble_eq_true rfl) a b c) ?_
      refine r_iconst hX dX3_sceneAt_28 (v := (-1 : Int32)) (by decide) ?_
      refine r_ixor hX dX3_sceneAt_29 ?_
      refine r_iand hX dX3_sceneAt_30 ?_
      refine r_istore_n hX (i := 3) dX3_sceneAt_31 rfl (by decide) rfl ?_
      refine r_iincC hX dX3_sceneAt_32 4 rfl (d := (1 : Int32)) (by decide) (by decide) rfl ?_
      refine r_goto hX dX3_sceneAt_35 (tgt := 10) (by decide) ?_
      exact J.sub [3, 4, 2, 1, 0] rfl (ih _ _ _ _  hf)
set_option maxRecDepth 20000 in
set_option maxHeartbeats 2000000 in
theorem wX3_sceneAt_b0 {X : Cx} {w : Wp} {σ : St} {r : Int32}  {x1 : Int32} (hX : OK X w cX3_sceneAt 5 RX3 (some .int) (rmz 3 71) (Qi w σ r)) (hW : CW w)   (hf : fX3_sceneAt σ x1 = some r) : J X w 5 σ 0 [(0, rf w 4), (1, .int x1)] [] := by
  rw [fX3_sceneAt] at hf
  refine r_iconst hX dX3_sceneAt_0 (v := (0 : Int32)) (by decide) ?_
  refine r_istore_n hX (i := 2) dX3_sceneAt_1 rfl (by decide) rfl ?_
  refine r_aload_n hX dX3_sceneAt_2 rfl 1 rfl ?_
  refine J.calli (fun H locs ls a b c => runV hX miX3_allButFirst (As := []) (cX3_allButFirst_ok (xl X) hW  rfl) g3_7 g3_9 gs_13 cls3 (CK4 hW) (by decide) (ce4 (CK4 hW)) ⟨Nat.le_of_ble_eq_true rfl, Nat.le_of_ble_eq_true rfl⟩ dX3_sceneAt_3 rfl (rest := []) rfl (Nat.le_of_ble_eq_true rfl) a b c) ?_
  refine r_istore_n hX (i := 3) dX3_sceneAt_6 rfl (by decide) rfl ?_
  refine r_iconst hX dX3_sceneAt_7 (v := (0 : Int32)) (by decide) ?_
  refine r_istore hX (i := 4) dX3_sceneAt_8 (by decide) rfl ?_
  exact J.sub [3, 4, 2, 1, 0] rfl (wX3_sceneAt_L10 hX hW  _ _ _ _ _  hf)
theorem miX3_sceneAt : MI yX3_sceneAt cX3_sceneAt 5 (some .int) 1 := ⟨g3_46, ⟨by decide, by decide, by decide +kernel⟩, g1_3, by decide +kernel⟩
theorem cX3_sceneAt_ok (l : Launch) {w : Wp} {σ : St} {r : Int32} {x1 : Int32} (hW : CW w)  (hf : fX3_sceneAt σ x1 = some r) : CM l w yX3_sceneAt cX3_sceneAt 5 (some .int) (rmz 3 71) [rf w 4, .int x1] σ (Qi w σ r) := CM.of miX3_sceneAt.2.2.2 (Nat.le_of_ble_eq_true rfl) (fun X hcl hX => J.sub [0, 1] rfl (wX3_sceneAt_b0 hX hW  hf))
-- X4_isAfter
set_option maxRecDepth 20000 in
set_option maxHeartbeats 2000000 in
theorem wX4_isAfter_b0 {X : Cx} {w : Wp} {σ : St} {r : Int32}  {o0 : Option Nat} {x1 : Int32} (hX : OK X w cX4_isAfter 2 RX4 (some .boolean) (rmz 0 0) (Qz w σ r)) (hW : CW w)  (h0 : ∀ t, o0 = some t → wK w t = 2) (hf : fX4_isAfter σ o0 x1 = r) : J X w 2 σ 0 [(0, rv w o0), (1, .int x1)] [] := by
  rw [fX4_isAfter] at hf
  refine r_aload_nQ hX dX4_isAfter_0 rfl 0 rfl ?_
  refine r_ifnull hX dX4_isAfter_1 (tgt := 16) (by decide) (fun h => ?_) (fun u1 h => ?_)
  · subst h
    have hf := elim_n hf
    refine r_iconst hX dX4_isAfter_16 (v := (0 : Int32)) (by decide) ?_
    subst hf
    exact r_zret hX bz0 dX4_isAfter_17
  · subst h
    have hf := elim_s hf
    refine r_aload_n hX dX4_isAfter_4 rfl 0 rfl ?_
    refine r_get hX cls1 (h0 u1 rfl) (by decide) (ce2 (h0 u1 rfl)) 1 (by decide) g2_5 rfl dX4_isAfter_5 (.int (σ.1 u1 1)) rfl ?_
    refine r_iload_n hX dX4_isAfter_8 rfl 1 rfl ?_
    refine r_icmp_le hX dX4_isAfter_9 (tgt := 16) (by decide) (fun h => ?_) (fun h => ?_)
    · have hf := ite_t h hf
      refine r_iconst hX dX4_isAfter_16 (v := (0 : Int32)) (by decide) ?_
      subst hf
      exact r_zret hX bz0 dX4_isAfter_17
    · have hf := ite_f h hf
      refine r_iconst hX dX4_isAfter_12 (v := (1 : Int32)) (by decide) ?_
      refine r_goto hX dX4_isAfter_13 (tgt := 17) (by decide) ?_
      subst hf
      exact r_zret hX bz1 dX4_isAfter_17
theorem miX4_isAfter : MI yX4_isAfter cX4_isAfter 2 (some .boolean) 2 := ⟨g2_43, ⟨by decide, by decide, by decide +kernel⟩, g1_2, by decide +kernel⟩
theorem cX4_isAfter_ok (l : Launch) {w : Wp} {σ : St} {r : Int32} {o0 : Option Nat} {x1 : Int32} (hW : CW w) (h0 : ∀ t, o0 = some t → wK w t = 2) (hf : fX4_isAfter σ o0 x1 = r) : CM l w yX4_isAfter cX4_isAfter 2 (some .boolean) (rmz 0 0) [rv w o0, .int x1] σ (Qz w σ r) := by
  cases o0 with
  | none => exact CM.of miX4_isAfter.2.2.2 (Nat.le_of_ble_eq_true rfl) (fun X hcl hX => J.sub [0, 1] rfl (wX4_isAfter_b0 hX hW h0 hf))
  | some u => exact CM.of miX4_isAfter.2.2.2 (Nat.le_of_ble_eq_true rfl) (fun X hcl hX => J.sub [0, 1] rfl (wX4_isAfter_b0 hX hW h0 hf))
