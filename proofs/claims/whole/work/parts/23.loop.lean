theorem step6 (j : Nat) : nI (6 * j) + Int32.ofInt 6 = nI (6 * (j + 1)) := by
  rw [show Int32.ofInt 6 = nI 6 from by decide, nI_add]
  exact congrArg nI (by omega)
theorem len6 {L : Nat} (hL : L ≤ 3072) : (Int32.ofNat L - (6 : Int32)).toInt = (L : Int) - 6 := pk_sub_toInt (a := L) (b := 6) (by omega) (by omega)
theorem end_lt {L j : Nat} (hL : L ≤ 3072) (h : j = 513) : (Int32.ofNat L - (6 : Int32)) < nI (6 * j) := by
  rw [Int32.lt_iff_toInt_lt, len6 hL, nI_toInt (by omega)]; omega
theorem end_ge {L j : Nat} (hL : L ≤ 3072) (hj : j ≤ 513) (h : ¬ (Int32.ofNat L - (6 : Int32)) < nI (6 * j)) : 6 * j + 6 ≤ L := by
  rw [Int32.lt_iff_toInt_lt, len6 hL, nI_toInt (by omega)] at h; omega
-- ===== the law's loop =====
section LOOP
variable {R : RelT} {b L : Nat} {xs' : Nat → Int32} {v : Wp}
theorem l_end {X : Cx} {w : Wp} {σ τ : St} {lv : List (Nat × Value)} (hX : OL X w v b L xs') (hq : OQ X b) (hc : xcl X ≤ 600000 ∧ xsl X ≤ 7302249) : JL X w v σ τ 922 lv [.int 1] := fun H locs ls a d hd s c => by
  obtain ⟨q1, q2, q3, q4⟩ := hq
  rw [q2, hX.2.2.2.2.2.2.2.2.2.1, q1]
  refine va_forget s.2.2 ?_
  refine W.widen hc.1 hc.2 ?_
  exact lw_ret hX.1 hX.2.1 q3 q4 dL_law_922
set_option maxRecDepth 20000 in
set_option maxHeartbeats 4000000 in
theorem law_loop (hs : LawOK R) (hV : MW v) (hL : L ≤ 3072) : ∀ (k j : Nat) (X : Cx) (w : Wp) (σ τ : St) (bd : Nat), k + j = 513 → OL X w v b L xs' → CW w → Fre w bd → R σ τ bd → (xcl X ≤ 1000 + 4 * j ∧ xsl X ≤ 10000 + 32 * j) → OQ X b → JL X w v σ τ 18 [(3, .int (nI (6 * j))), (1, rf w 0), (2, rf v 0), (0, .ref b)] [] := by
  intro k
  induction k with
  | zero =>
    intro j X w σ τ bd hkj hX hW hF hRel hcap hq
    refine l_iload hX dL_law_18 rfl 0 rfl ?_
    refine l_aload hX dL_law_19 rfl 3 rfl ?_
    refine l_slen hX dL_law_20 ?_
    refine l_bipush hX dL_law_21 (z := (6 : Int32)) (by decide) ?_
    refine l_isub hX dL_law_23 ?_
    refine l_icmp_gt hX dL_law_24 (tgt := 921) (by decide) (fun h => ?_) (fun h => ?_)
    · refine l_iconst hX dL_law_921 (z := (1 : Int32)) (by decide) ?_
      exact l_end hX hq (by omega)
    · exact absurd (end_lt hL (by omega)) h
  | succ k ih =>
    intro j X w σ τ bd hkj hX hW hF hRel hcap hq
    refine l_iload hX dL_law_18 rfl 0 rfl ?_
    refine l_aload hX dL_law_19 rfl 3 rfl ?_
    refine l_slen hX dL_law_20 ?_
    refine l_bipush hX dL_law_21 (z := (6 : Int32)) (by decide) ?_
    refine l_isub hX dL_law_23 ?_
    refine l_icmp_gt hX dL_law_24 (tgt := 921) (by decide) (fun h => ?_) (fun h => ?_)
    · refine l_iconst hX dL_law_921 (z := (1 : Int32)) (by decide) ?_
      exact l_end hX hq (by omega)
    have hj : 6 * j + 6 ≤ L := end_ge hL (by omega) h
    have next : ∀ (X' : Cx) (w' : Wp) (σ' τ' : St) (bd' : Nat), OL X' w' v b L xs' → CW w' → Fre w' bd' → R σ' τ' bd' → (xcl X' ≤ xcl X + 4 ∧ xsl X' ≤ xsl X + 32) → OQ X' b → JL X' w' v σ' τ' 915 [(3, .int (nI (6 * j))), (1, rf w' 0), (2, rf v 0), (0, .ref b)] [] := by
      intro X' w' σ' τ' bd' hX' hW' hF' hR' hc' hq'
      refine l_iinc hX' dL_law_915 0 rfl (z := nI (6 * (j + 1))) (step6 j) (by decide) rfl ?_
      refine l_goto hX' dL_law_918 (tgt := 18) (by decide) ?_
      exact ih (j + 1) X' w' σ' τ' bd' (by omega) hX' hW' hF' hR' (by omega) hq'
    refine l_aload hX dL_law_27 rfl 3 rfl ?_
    refine l_iload hX dL_law_28 rfl 0 rfl ?_
    refine l_sld hX (vp_in_nI (by omega) (by omega)) rfl dL_law_29 ?_
    refine l_bipush hX dL_law_30 (z := (31 : Int32)) (by decide) ?_
    refine l_iand hX dL_law_32 ?_
    refine sw_all (x := (xs' (ix (nI (6 * j)))) &&& (31 : Int32)) 21 (by decide) (fun h => ?_) (fun i hi hx => ?_)
    · refine l_tabOut hX dL_law_33 h (tgt := 915) (by decide) ?_
      exact next X w σ τ bd hX hW hF hRel (by omega) hq
    rcases (show i = 0 ∨ i = 1 ∨ i = 2 ∨ i = 3 ∨ i = 4 ∨ i = 5 ∨ i = 6 ∨ i = 7 ∨ i = 8 ∨ i = 9 ∨ i = 10 ∨ i = 11 ∨ i = 12 ∨ i = 13 ∨ i = 14 ∨ i = 15 ∨ i = 16 ∨ i = 17 ∨ i = 18 ∨ i = 19 ∨ i = 20 ∨ i = 21 by omega) with rfl | rfl | rfl | rfl | rfl | rfl | rfl | rfl | rfl | rfl | rfl | rfl | rfl | rfl | rfl | rfl | rfl | rfl | rfl | rfl | rfl | rfl
    · have hx : (xs' (ix (nI (6 * j)))) &&& (31 : Int32) = (0 : Int32) := hx
      refine l_tabIn hX dL_law_33 (by rw [hx]; decide) (by rw [hx]; decide) (off := 103) (by rw [hx]; rfl) (tgt := 136) (by decide) ?_
      exact lc_0 hs.1 hX hW hV hF hRel (by omega) hL (by omega) hq next
    · have hx : (xs' (ix (nI (6 * j)))) &&& (31 : Int32) = (1 : Int32) := hx
      refine l_tabIn hX dL_law_33 (by rw [hx]; decide) (by rw [hx]; decide) (off := 126) (by rw [hx]; rfl) (tgt := 159) (by decide) ?_
      exact lc_1 hs.2.1 hX hW hV hF hRel (by omega) hL (by omega) hq next
    · have hx : (xs' (ix (nI (6 * j)))) &&& (31 : Int32) = (2 : Int32) := hx
      refine l_tabIn hX dL_law_33 (by rw [hx]; decide) (by rw [hx]; decide) (off := 169) (by rw [hx]; rfl) (tgt := 202) (by decide) ?_
      exact lc_2 hs.2.2.1 hX hW hV hF hRel (by omega) hL (by omega) hq next
    · have hx : (xs' (ix (nI (6 * j)))) &&& (31 : Int32) = (3 : Int32) := hx
      refine l_tabIn hX dL_law_33 (by rw [hx]; decide) (by rw [hx]; decide) (off := 222) (by rw [hx]; rfl) (tgt := 255) (by decide) ?_
      exact lc_3 hs.2.2.2.1 hX hW hV hF hRel (by omega) hL (by omega) hq next
    · have hx : (xs' (ix (nI (6 * j)))) &&& (31 : Int32) = (4 : Int32) := hx
      refine l_tabIn hX dL_law_33 (by rw [hx]; decide) (by rw [hx]; decide) (off := 245) (by rw [hx]; rfl) (tgt := 278) (by decide) ?_
      exact lc_4 hs.2.2.2.2.1 hX hW hV hF hRel (by omega) hL (by omega) hq next
    · have hx : (xs' (ix (nI (6 * j)))) &&& (31 : Int32) = (5 : Int32) := hx
      refine l_tabIn hX dL_law_33 (by rw [hx]; decide) (by rw [hx]; decide) (off := 298) (by rw [hx]; rfl) (tgt := 331) (by decide) ?_
      exact lc_5 hs.2.2.2.2.2.1 hX hW hV hF hRel (by omega) hL (by omega) hq next
    · have hx : (xs' (ix (nI (6 * j)))) &&& (31 : Int32) = (6 : Int32) := hx
      refine l_tabIn hX dL_law_33 (by rw [hx]; decide) (by rw [hx]; decide) (off := 361) (by rw [hx]; rfl) (tgt := 394) (by decide) ?_
      exact lc_6 hs.2.2.2.2.2.2.1 hX hW hV hF hRel (by omega) hL (by omega) hq next
    · have hx : (xs' (ix (nI (6 * j)))) &&& (31 : Int32) = (7 : Int32) := hx
      refine l_tabIn hX dL_law_33 (by rw [hx]; decide) (by rw [hx]; decide) (off := 384) (by rw [hx]; rfl) (tgt := 417) (by decide) ?_
      exact lc_7 hs.2.2.2.2.2.2.2.1 hX hW hV hF hRel (by omega) hL (by omega) hq next
    · have hx : (xs' (ix (nI (6 * j)))) &&& (31 : Int32) = (8 : Int32) := hx
      refine l_tabIn hX dL_law_33 (by rw [hx]; decide) (by rw [hx]; decide) (off := 438) (by rw [hx]; rfl) (tgt := 471) (by decide) ?_
      exact lc_8 hs.2.2.2.2.2.2.2.2.1 hX hW hV hF hRel (by omega) hL (by omega) hq next
    · have hx : (xs' (ix (nI (6 * j)))) &&& (31 : Int32) = (9 : Int32) := hx
      refine l_tabIn hX dL_law_33 (by rw [hx]; decide) (by rw [hx]; decide) (off := 492) (by rw [hx]; rfl) (tgt := 525) (by decide) ?_
      exact lc_9 hs.2.2.2.2.2.2.2.2.2.1 hX hW hV hF hRel (by omega) hL (by omega) hq next
    · have hx : (xs' (ix (nI (6 * j)))) &&& (31 : Int32) = (10 : Int32) := hx
      refine l_tabIn hX dL_law_33 (by rw [hx]; decide) (by rw [hx]; decide) (off := 546) (by rw [hx]; rfl) (tgt := 579) (by decide) ?_
      exact lc_10 hs.2.2.2.2.2.2.2.2.2.2.1 hX hW hV hF hRel (by omega) hL (by omega) hq next
    · have hx : (xs' (ix (nI (6 * j)))) &&& (31 : Int32) = (11 : Int32) := hx
      refine l_tabIn hX dL_law_33 (by rw [hx]; decide) (by rw [hx]; decide) (off := 589) (by rw [hx]; rfl) (tgt := 622) (by decide) ?_
      exact lc_11 hs.2.2.2.2.2.2.2.2.2.2.2.1 hX hW hV hF hRel (by omega) hL (by omega) hq next
    · have hx : (xs' (ix (nI (6 * j)))) &&& (31 : Int32) = (12 : Int32) := hx
      refine l_tabIn hX dL_law_33 (by rw [hx]; decide) (by rw [hx]; decide) (off := 632) (by rw [hx]; rfl) (tgt := 665) (by decide) ?_
      exact lc_12 hs.2.2.2.2.2.2.2.2.2.2.2.2.1 hX hW hV hF hRel (by omega) hL (by omega) hq next
    · have hx : (xs' (ix (nI (6 * j)))) &&& (31 : Int32) = (13 : Int32) := hx
      refine l_tabIn hX dL_law_33 (by rw [hx]; decide) (by rw [hx]; decide) (off := 675) (by rw [hx]; rfl) (tgt := 708) (by decide) ?_
      exact lc_13 hs.2.2.2.2.2.2.2.2.2.2.2.2.2.1 hX hW hV hF hRel (by omega) hL (by omega) hq next
    · have hx : (xs' (ix (nI (6 * j)))) &&& (31 : Int32) = (14 : Int32) := hx
      refine l_tabIn hX dL_law_33 (by rw [hx]; decide) (by rw [hx]; decide) (off := 698) (by rw [hx]; rfl) (tgt := 731) (by decide) ?_
      exact lc_14 hs.2.2.2.2.2.2.2.2.2.2.2.2.2.2.1 hX hW hV hF hRel (by omega) hL (by omega) hq next
    · have hx : (xs' (ix (nI (6 * j)))) &&& (31 : Int32) = (15 : Int32) := hx
      refine l_tabIn hX dL_law_33 (by rw [hx]; decide) (by rw [hx]; decide) (off := 741) (by rw [hx]; rfl) (tgt := 774) (by decide) ?_
      exact lc_15 hs.2.2.2.2.2.2.2.2.2.2.2.2.2.2.2.1 hX hW hV hF hRel (by omega) hL (by omega) hq next
    · have hx : (xs' (ix (nI (6 * j)))) &&& (31 : Int32) = (16 : Int32) := hx
      refine l_tabIn hX dL_law_33 (by rw [hx]; decide) (by rw [hx]; decide) (off := 764) (by rw [hx]; rfl) (tgt := 797) (by decide) ?_
      exact lc_16 hs.2.2.2.2.2.2.2.2.2.2.2.2.2.2.2.2.1 hX hW hV hF hRel (by omega) hL (by omega) hq next
    · have hx : (xs' (ix (nI (6 * j)))) &&& (31 : Int32) = (17 : Int32) := hx
      refine l_tabIn hX dL_law_33 (by rw [hx]; decide) (by rw [hx]; decide) (off := 777) (by rw [hx]; rfl) (tgt := 810) (by decide) ?_
      exact lc_17 hs.2.2.2.2.2.2.2.2.2.2.2.2.2.2.2.2.2.1 hX hW hV hF hRel (by omega) hL (by omega) hq next
    · have hx : (xs' (ix (nI (6 * j)))) &&& (31 : Int32) = (18 : Int32) := hx
      refine l_tabIn hX dL_law_33 (by rw [hx]; decide) (by rw [hx]; decide) (off := 810) (by rw [hx]; rfl) (tgt := 843) (by decide) ?_
      exact lc_18 hs.2.2.2.2.2.2.2.2.2.2.2.2.2.2.2.2.2.2.1 hX hW hV hF hRel (by omega) hL (by omega) hq next
    · have hx : (xs' (ix (nI (6 * j)))) &&& (31 : Int32) = (19 : Int32) := hx
      refine l_tabIn hX dL_law_33 (by rw [hx]; decide) (by rw [hx]; decide) (off := 833) (by rw [hx]; rfl) (tgt := 866) (by decide) ?_
      exact lc_19 hs.2.2.2.2.2.2.2.2.2.2.2.2.2.2.2.2.2.2.2.1 hX hW hV hF hRel (by omega) hL (by omega) hq next
    · have hx : (xs' (ix (nI (6 * j)))) &&& (31 : Int32) = (20 : Int32) := hx
      refine l_tabIn hX dL_law_33 (by rw [hx]; decide) (by rw [hx]; decide) (off := 846) (by rw [hx]; rfl) (tgt := 879) (by decide) ?_
      exact lc_20 hs.2.2.2.2.2.2.2.2.2.2.2.2.2.2.2.2.2.2.2.2.1 hX hW hV hF hRel (by omega) hL (by omega) hq next
    · have hx : (xs' (ix (nI (6 * j)))) &&& (31 : Int32) = (21 : Int32) := hx
      refine l_tabIn hX dL_law_33 (by rw [hx]; decide) (by rw [hx]; decide) (off := 869) (by rw [hx]; rfl) (tgt := 902) (by decide) ?_
      exact lc_21 hs.2.2.2.2.2.2.2.2.2.2.2.2.2.2.2.2.2.2.2.2.2 hX hW hV hF hRel (by omega) hL (by omega) hq next
end LOOP
